def jn_X5_odds_112 (kc24 : (Int32 × Int32) → zAH → Option (Int32 × zAH)) (v0 : Nat) (v1 : Int32) (v2 : Int32) (v4 : Int32) (w0 : Int32) (w1 : Int32) : zAH → Option (Int32 × zAH) := fun h => kc24 (w0 + w1, v4 + 1) h
theorem sj_X5_odds_112 (g : zG) (l : Launch) (kc24 : (Int32 × Int32) → zAH → Option (Int32 × zAH)) (v0 : Nat) (v1 : Int32) (v2 : Int32) (v4 : Int32) (w0 : Int32) (w1 : Int32) (hkc24 : ∀ s, zSm g l cX5_odds 7 RX5 "odds" (some .int) 6 134 zrI 24 [(0, .ref v0), (1, .int v1), (2, .int v2), (3, .int s.1), (4, .int s.2)] [] (kc24 s)) : zSm g l cX5_odds 7 RX5 "odds" (some .int) 6 134 zrI 112 [(0, .ref v0), (1, .int v1), (2, .int v2), (4, .int v4)] [.int w1, .int w0] (jn_X5_odds_112 kc24 v0 v1 v2 v4 w0 w1) := by
  unfold jn_X5_odds_112
  refine z_iadd (q := 113) (by decide +kernel) rfl ?_
  refine z_istore_n (j := 3) (q := 114) (by decide +kernel) rfl (by decide) rfl ?_
  refine z_iinc (j := 4) (n := 1) (v := 1) (q := 117) (by decide +kernel) rfl 4 rfl (by decide) (by decide) rfl ?_
  refine z_goto (off := (-93)) (t := 24) (by decide +kernel) (by decide) ?_
  refine zsub [2, 3, 4, 1, 0] rfl ?_
  exact hkc24 (w0 + w1, v4 + 1)
def jn_X5_odds_93 (kc24 : (Int32 × Int32) → zAH → Option (Int32 × zAH)) (v0 : Nat) (v1 : Int32) (v2 : Int32) (v3 : Int32) (v4 : Int32) : zAH → Option (Int32 × zAH) := fun h => zbd (dn_X5_toEnd v0 h) fun x1 h2 => zbd (dn_X5_v v0 1 h2) fun x3 h4 => if x3 = v1 then jn_X5_odds_112 kc24 v0 v1 v2 v4 v3 1 h4 else jn_X5_odds_112 kc24 v0 v1 v2 v4 v3 0 h4
theorem sj_X5_odds_93 (g : zG) (l : Launch) (kc24 : (Int32 × Int32) → zAH → Option (Int32 × zAH)) (v0 : Nat) (v1 : Int32) (v2 : Int32) (v3 : Int32) (v4 : Int32) (hkc24 : ∀ s, zSm g l cX5_odds 7 RX5 "odds" (some .int) 6 134 zrI 24 [(0, .ref v0), (1, .int v1), (2, .int v2), (3, .int s.1), (4, .int s.2)] [] (kc24 s)) : zSm g l cX5_odds 7 RX5 "odds" (some .int) 6 134 zrI 93 [(0, .ref v0), (1, .int v1), (2, .int v2), (3, .int v3), (4, .int v4)] [] (jn_X5_odds_93 kc24 v0 v1 v2 v3 v4) := by
  unfold jn_X5_odds_93
  refine z_aload_n (j := 0) (q := 94) (by decide +kernel) rfl 0 rfl ?_
  refine z_callVU (As := []) (st := []) (q := 97) (ct_X5_toEnd g l v0) zm_RX5_240 (rc_X5_toEnd v0) rfl (by decide) (by decide) (Nat.le_of_ble_eq_true rfl) rfl (by decide +kernel) rfl fun x1 => ?_
  refine z_iload_n (j := 3) (q := 98) (by decide +kernel) rfl 3 rfl ?_
  refine z_aload_n (j := 0) (q := 99) (by decide +kernel) rfl 0 rfl ?_
  refine z_iconst (n := 1) (v := 1) (q := 100) (by decide +kernel) rfl (by decide) ?_
  refine z_callVI (As := [.int 1]) (st := [.int v3]) (q := 103) (ct_X5_v g l v0 1) zm_RX5_190 (rc_X5_v v0 1) rfl (by decide) (by decide) (Nat.le_of_ble_eq_true rfl) rfl (by decide +kernel) rfl fun x3 => ?_
  refine z_iload_n (j := 1) (q := 104) (by decide +kernel) rfl 1 rfl ?_
  refine z_icmp_ne (off := 7) (t := 111) (q := 107) (by decide +kernel) (by decide) rfl ?_ ?_
  · refine z_iconst (n := 0) (v := 0) (q := 112) (by decide +kernel) rfl (by decide) ?_
    refine zsub [0, 1, 2, 4] rfl ?_
    exact sj_X5_odds_112 g l kc24 v0 v1 v2 v4 v3 0 hkc24
  · refine z_iconst (n := 1) (v := 1) (q := 108) (by decide +kernel) rfl (by decide) ?_
    refine z_goto (off := 4) (t := 112) (by decide +kernel) (by decide) ?_
    refine zsub [0, 1, 2, 4] rfl ?_
    exact sj_X5_odds_112 g l kc24 v0 v1 v2 v4 v3 1 hkc24
def lb_X5_odds_41 (kc24 : (Int32 × Int32) → zAH → Option (Int32 × zAH)) (v0 : Nat) (v1 : Int32) (v2 : Int32) (v3 : Int32) (v4 : Int32) (rec : (Int32 × Int32) → zAH → Option (Int32 × zAH)) (s : Int32 × Int32) : zAH → Option (Int32 × zAH) := fun h => (zgI 5 12 v0 h).bind fun x1 => if s.1 < x1 then (zgA 5 14 v0 h).bind fun x2 => (zaI 0 x2 s.1 h).bind fun x3 => if 3 = 0 then none else zbd (dn_X5_greater 1 ((x3 + (s.2 % 3)) - 1) h) fun x4 h5 => (zgA 5 15 v0 h5).bind fun x6 => (zaI 0 x6 s.1 h5).bind fun x7 => zbd (dn_X5_starts v0 s.1 x4 x7 h5) fun x8 h9 => if 3 = 0 then none else rec (s.1 + 1, s.2 / 3) h9 else jn_X5_odds_93 kc24 v0 v1 v2 v3 v4 h
def lp_X5_odds_41 (kc24 : (Int32 × Int32) → zAH → Option (Int32 × zAH)) (v0 : Nat) (v1 : Int32) (v2 : Int32) (v3 : Int32) (v4 : Int32) (s : Int32 × Int32) : zAH → Option (Int32 × zAH) := zlp (lb_X5_odds_41 kc24 v0 v1 v2 v3 v4) 2000 s
theorem sl_X5_odds_41 (g : zG) (l : Launch) (kc24 : (Int32 × Int32) → zAH → Option (Int32 × zAH)) (v0 : Nat) (v1 : Int32) (v2 : Int32) (v3 : Int32) (v4 : Int32) (hkc24 : ∀ s, zSm g l cX5_odds 7 RX5 "odds" (some .int) 6 134 zrI 24 [(0, .ref v0), (1, .int v1), (2, .int v2), (3, .int s.1), (4, .int s.2)] [] (kc24 s)) (s : Int32 × Int32) : zSm g l cX5_odds 7 RX5 "odds" (some .int) 6 134 zrI 41 [(0, .ref v0), (1, .int v1), (2, .int v2), (3, .int v3), (4, .int v4), (5, .int s.1), (6, .int s.2)] [] (lp_X5_odds_41 kc24 v0 v1 v2 v3 v4 s) := by
  unfold lp_X5_odds_41
  refine z_loop (lvf := fun s => [(0, .ref v0), (1, .int v1), (2, .int v2), (3, .int v3), (4, .int v4), (5, .int s.1), (6, .int s.2)]) (fun rec hrec s => ?_) 2000 s
  unfold lb_X5_odds_41
  refine z_iload (j := 5) (q := 43) (by decide +kernel) rfl 5 rfl ?_
  refine z_aload_n (j := 0) (q := 44) (by decide +kernel) rfl 0 rfl ?_
  refine z_getI (q := 47) zf_RX5_147 (by decide +kernel) rfl fun x1 => ?_
  refine z_icmp_ge (off := 46) (t := 93) (q := 50) (by decide +kernel) (by decide) rfl ?_ ?_
  · refine zsub [0, 1, 2, 3, 4] rfl ?_
    exact sj_X5_odds_93 g l kc24 v0 v1 v2 v3 v4 hkc24
  · refine z_aload_n (j := 0) (q := 51) (by decide +kernel) rfl 0 rfl ?_
    refine z_iload (j := 5) (q := 53) (by decide +kernel) rfl 5 rfl ?_
    refine z_iconst (n := 1) (v := 1) (q := 54) (by decide +kernel) rfl (by decide) ?_
    refine z_aload_n (j := 0) (q := 55) (by decide +kernel) rfl 0 rfl ?_
    refine z_getA (q := 58) zf_RX5_35 (by decide +kernel) rfl fun x2 => ?_
    refine z_iload (j := 5) (q := 60) (by decide +kernel) rfl 5 rfl ?_
    refine z_iald (q := 61) (Or.inl ⟨rfl, rfl⟩) (by decide +kernel) rfl fun x3 => ?_
    refine z_iload (j := 6) (q := 63) (by decide +kernel) rfl 6 rfl ?_
    refine z_iconst (n := 3) (v := 3) (q := 64) (by decide +kernel) rfl (by decide) ?_
    refine z_irem (q := 65) (by decide +kernel) rfl ?_
    refine z_iadd (q := 66) (by decide +kernel) rfl ?_
    refine z_iconst (n := 1) (v := 1) (q := 67) (by decide +kernel) rfl (by decide) ?_
    refine z_isub (q := 68) (by decide +kernel) rfl ?_
    refine z_callSI (As := [.int 1, .int ((x3 + (s.2 % 3)) - 1)]) (st := [.int s.1, .ref v0]) (q := 71) (ct_X5_greater g l 1 ((x3 + (s.2 % 3)) - 1)) zm_RX5_281 rfl (by decide) (by decide) (Nat.le_of_ble_eq_true rfl) rfl (by decide +kernel) rfl fun x4 => ?_
    refine z_aload_n (j := 0) (q := 72) (by decide +kernel) rfl 0 rfl ?_
    refine z_getA (q := 75) zf_RX5_38 (by decide +kernel) rfl fun x6 => ?_
    refine z_iload (j := 5) (q := 77) (by decide +kernel) rfl 5 rfl ?_
    refine z_iald (q := 78) (Or.inl ⟨rfl, rfl⟩) (by decide +kernel) rfl fun x7 => ?_
    refine z_callVU (As := [.int s.1, .int x4, .int x7]) (st := []) (q := 81) (ct_X5_starts g l v0 s.1 x4 x7) zm_RX5_186 (rc_X5_starts v0 s.1 x4 x7) rfl (by decide) (by decide) (Nat.le_of_ble_eq_true rfl) rfl (by decide +kernel) rfl fun x8 => ?_
    refine z_iinc (j := 5) (n := 1) (v := 1) (q := 84) (by decide +kernel) rfl 5 rfl (by decide) (by decide) rfl ?_
    refine z_iload (j := 6) (q := 86) (by decide +kernel) rfl 6 rfl ?_
    refine z_iconst (n := 3) (v := 3) (q := 87) (by decide +kernel) rfl (by decide) ?_
    refine z_idiv (q := 88) (by decide +kernel) rfl ?_
    refine z_istore (j := 6) (q := 90) (by decide +kernel) rfl (by decide) rfl ?_
    refine z_goto (off := (-49)) (t := 41) (by decide +kernel) (by decide) ?_
    refine zsub [2, 3, 4, 5, 6, 1, 0] rfl ?_
    exact hrec (s.1 + 1, s.2 / 3)
def jn_X5_odds_120 (v0 : Nat) (v2 : Int32) (v3 : Int32) : zAH → Option (Int32 × zAH) := fun h => zbd (dn_X5_fraction v0 (Int32.toInt64 v3) (Int32.toInt64 v2) v3 h) fun x1 h2 => some (x1, h2)
theorem sj_X5_odds_120 (g : zG) (l : Launch) (v0 : Nat) (v2 : Int32) (v3 : Int32) : zSm g l cX5_odds 7 RX5 "odds" (some .int) 6 134 zrI 120 [(0, .ref v0), (2, .int v2), (3, .int v3)] [] (jn_X5_odds_120 v0 v2 v3) := by
  unfold jn_X5_odds_120
  refine z_aload_n (j := 0) (q := 121) (by decide +kernel) rfl 0 rfl ?_
  refine z_iload_n (j := 3) (q := 122) (by decide +kernel) rfl 2 rfl ?_
  refine z_i2l (q := 123) (by decide +kernel) rfl ?_
  refine z_iload_n (j := 2) (q := 124) (by decide +kernel) rfl 1 rfl ?_
  refine z_i2l (q := 125) (by decide +kernel) rfl ?_
  refine z_iload_n (j := 3) (q := 126) (by decide +kernel) rfl 2 rfl ?_
  refine z_callVI (As := [.long (Int32.toInt64 v3), .long (Int32.toInt64 v2), .int v3]) (st := []) (q := 129) (ct_X5_fraction g l v0 (Int32.toInt64 v3) (Int32.toInt64 v2) v3) zm_RX5_258 (rc_X5_fraction v0 (Int32.toInt64 v3) (Int32.toInt64 v2) v3) rfl (by decide) (by decide) (Nat.le_of_ble_eq_true rfl) rfl (by decide +kernel) rfl fun x1 => ?_
  exact z_iret (by decide +kernel)
def lb_X5_odds_24 (v0 : Nat) (v1 : Int32) (v2 : Int32) (rec : (Int32 × Int32) → zAH → Option (Int32 × zAH)) (s : Int32 × Int32) : zAH → Option (Int32 × zAH) := fun h => if s.2 < v2 then zbd (dn_X5_layWhole v0 h) fun x1 h2 => lp_X5_odds_41 rec v0 v1 v2 s.1 s.2 (0, s.2) h2 else jn_X5_odds_120 v0 v2 s.1 h
def lp_X5_odds_24 (v0 : Nat) (v1 : Int32) (v2 : Int32) (s : Int32 × Int32) : zAH → Option (Int32 × zAH) := zlp (lb_X5_odds_24 v0 v1 v2) 2000 s
theorem sl_X5_odds_24 (g : zG) (l : Launch) (v0 : Nat) (v1 : Int32) (v2 : Int32) (s : Int32 × Int32) : zSm g l cX5_odds 7 RX5 "odds" (some .int) 6 134 zrI 24 [(0, .ref v0), (1, .int v1), (2, .int v2), (3, .int s.1), (4, .int s.2)] [] (lp_X5_odds_24 v0 v1 v2 s) := by
  unfold lp_X5_odds_24
  refine z_loop (lvf := fun s => [(0, .ref v0), (1, .int v1), (2, .int v2), (3, .int s.1), (4, .int s.2)]) (fun rec hrec s => ?_) 2000 s
  unfold lb_X5_odds_24
  refine z_iload (j := 4) (q := 26) (by decide +kernel) rfl 4 rfl ?_
  refine z_iload_n (j := 2) (q := 27) (by decide +kernel) rfl 2 rfl ?_
  refine z_icmp_ge (off := 93) (t := 120) (q := 30) (by decide +kernel) (by decide) rfl ?_ ?_
  · refine zsub [0, 2, 3] rfl ?_
    exact sj_X5_odds_120 g l v0 v2 s.1
  · refine z_aload_n (j := 0) (q := 31) (by decide +kernel) rfl 0 rfl ?_
    refine z_callVU (As := []) (st := []) (q := 34) (ct_X5_layWhole g l v0) zm_RX5_278 (rc_X5_layWhole v0) rfl (by decide) (by decide) (Nat.le_of_ble_eq_true rfl) rfl (by decide +kernel) rfl fun x1 => ?_
    refine z_iconst (n := 0) (v := 0) (q := 35) (by decide +kernel) rfl (by decide) ?_
    refine z_istore (j := 5) (q := 37) (by decide +kernel) rfl (by decide) rfl ?_
    refine z_iload (j := 4) (q := 39) (by decide +kernel) rfl 5 rfl ?_
    refine z_istore (j := 6) (q := 41) (by decide +kernel) rfl (by decide) rfl ?_
    refine zsub [2, 3, 4, 5, 6, 1, 0] rfl ?_
    exact sl_X5_odds_41 g l rec v0 v1 v2 s.1 s.2 hrec (0, s.2)
def dn_X5_odds (v0 : Nat) (v1 : Int32) : zAH → Option (Int32 × zAH) := fun h => (zgO 5 v0 h).bind fun _ => zbd (dn_X5_isRunner v0 v1 h) fun x1 h2 => if x1 = 0 then some ((-1), h2) else (zgI 5 12 v0 h2).bind fun x3 => zbd (dn_X5_powerOf 3 x3 h2) fun x4 h5 => lp_X5_odds_24 v0 v1 x4 (0, 0) h5
theorem ct_X5_odds (g : zG) (l : Launch) (v0 : Nat) (v1 : Int32) : zCt g l yX5_odds cX5_odds 7 (some .int) 6 134 zrI [.ref v0, .int v1] (dn_X5_odds v0 v1) := by
  refine zCt_of (lv := [(0, .ref v0), (1, .int v1)]) (by decide +kernel) (Nat.le_of_ble_eq_true rfl) rfl ?_
  show zSm g l cX5_odds 7 RX5 "odds" (some .int) 6 134 zrI 0 [(0, .ref v0), (1, .int v1)] [] (dn_X5_odds v0 v1)
  unfold dn_X5_odds
  refine z_rec ?_
  refine z_aload_n (j := 0) (q := 1) (by decide +kernel) rfl 0 rfl ?_
  refine z_iload_n (j := 1) (q := 2) (by decide +kernel) rfl 1 rfl ?_
  refine z_callVI (As := [.int v1]) (st := []) (q := 5) (ct_X5_isRunner g l v0 v1) zm_RX5_160 (rc_X5_isRunner v0 v1) rfl (by decide) (by decide) (Nat.le_of_ble_eq_true rfl) rfl (by decide +kernel) rfl fun x1 => ?_
  refine z_if_ne (off := 5) (t := 10) (q := 8) (by decide +kernel) (by decide) rfl ?_ ?_
  · refine z_iconst (n := 3) (v := 3) (q := 11) (by decide +kernel) rfl (by decide) ?_
    refine z_aload_n (j := 0) (q := 12) (by decide +kernel) rfl 0 rfl ?_
    refine z_getI (q := 15) zf_RX5_147 (by decide +kernel) rfl fun x3 => ?_
    refine z_callSI (As := [.int 3, .int x3]) (st := []) (q := 18) (ct_X5_powerOf g l 3 x3) zm_RX5_252 rfl (by decide) (by decide) (Nat.le_of_ble_eq_true rfl) rfl (by decide +kernel) rfl fun x4 => ?_
    refine z_istore_n (j := 2) (q := 19) (by decide +kernel) rfl (by decide) rfl ?_
    refine z_iconst (n := 0) (v := 0) (q := 20) (by decide +kernel) rfl (by decide) ?_
    refine z_istore_n (j := 3) (q := 21) (by decide +kernel) rfl (by decide) rfl ?_
    refine z_iconst (n := 0) (v := 0) (q := 22) (by decide +kernel) rfl (by decide) ?_
    refine z_istore (j := 4) (q := 24) (by decide +kernel) rfl (by decide) rfl ?_
    refine zsub [3, 4, 2, 1, 0] rfl ?_
    exact sl_X5_odds_24 g l v0 v1 x4 (0, 0)
  · refine z_iconst (n := (-1)) (v := (-1)) (q := 9) (by decide +kernel) rfl (by decide) ?_
    exact z_iret (by decide +kernel)
theorem rc_X5_odds (v0 : Nat) (v1 : Int32) : ∀ h x, dn_X5_odds v0 v1 h = some x → ∃ fs, zgO 5 v0 h = some fs := fun h x hd => by
  obtain ⟨fs, e, -⟩ := Option.bind_eq_some_iff.mp hd
  exact ⟨fs, e⟩
def jn_X5_season_28 : zAH → Option (Int32 × zAH) := fun h => some ((-1), h)
theorem sj_X5_season_28 (g : zG) (l : Launch) : zSm g l cX5_season 8 RX5 "season" (some .int) 6 134 zrI 28 [] [] (jn_X5_season_28) := by
  unfold jn_X5_season_28
  refine z_iconst (n := (-1)) (v := (-1)) (q := 29) (by decide +kernel) rfl (by decide) ?_
  exact z_iret (by decide +kernel)
def jn_X5_season_160 (kc86 : (Int64 × Int32) → zAH → Option (Int32 × zAH)) (v0 : Nat) (v1 : Int32) (v3 : Int32) (v4 : Int64) (v6 : Int32) : zAH → Option (Int32 × zAH) := fun h => zbd (dn_X5_toEnd v0 h) fun x1 h2 => (zgA 5 6 v0 h2).bind fun x3 => zbd (dn_X5_v v0 1 h2) fun x4 h5 => (zaI 0 x3 ((60 * v3) + x4) h5).bind fun x6 => (zaS 0 x3 ((60 * v3) + x4) (x6 + 1) h5).bind fun h7 => kc86 (v4, v6 + 1) h7
theorem sj_X5_season_160 (g : zG) (l : Launch) (kc86 : (Int64 × Int32) → zAH → Option (Int32 × zAH)) (v0 : Nat) (v1 : Int32) (v3 : Int32) (v4 : Int64) (v6 : Int32) (hkc86 : ∀ s, zSm g l cX5_season 8 RX5 "season" (some .int) 6 134 zrI 86 [(0, .ref v0), (1, .int v1), (3, .int v3), (4, .long s.1), (6, .int s.2)] [] (kc86 s)) : zSm g l cX5_season 8 RX5 "season" (some .int) 6 134 zrI 160 [(0, .ref v0), (1, .int v1), (3, .int v3), (4, .long v4), (6, .int v6)] [] (jn_X5_season_160 kc86 v0 v1 v3 v4 v6) := by
  unfold jn_X5_season_160
  refine z_aload_n (j := 0) (q := 161) (by decide +kernel) rfl 0 rfl ?_
  refine z_callVU (As := []) (st := []) (q := 164) (ct_X5_toEnd g l v0) zm_RX5_240 (rc_X5_toEnd v0) rfl (by decide) (by decide) (Nat.le_of_ble_eq_true rfl) rfl (by decide +kernel) rfl fun x1 => ?_
  refine z_aload_n (j := 0) (q := 165) (by decide +kernel) rfl 0 rfl ?_
  refine z_getA (q := 168) zf_RX5_16 (by decide +kernel) rfl fun x3 => ?_
  refine z_bipush (n := 60) (v := 60) (q := 170) (by decide +kernel) rfl (by decide) ?_
  refine z_iload_n (j := 3) (q := 171) (by decide +kernel) rfl 2 rfl ?_
  refine z_imul (q := 172) (by decide +kernel) rfl ?_
  refine z_aload_n (j := 0) (q := 173) (by decide +kernel) rfl 0 rfl ?_
  refine z_iconst (n := 1) (v := 1) (q := 174) (by decide +kernel) rfl (by decide) ?_
  refine z_callVI (As := [.int 1]) (st := [.int (60 * v3), .ref x3]) (q := 177) (ct_X5_v g l v0 1) zm_RX5_190 (rc_X5_v v0 1) rfl (by decide) (by decide) (Nat.le_of_ble_eq_true rfl) rfl (by decide +kernel) rfl fun x4 => ?_
  refine z_iadd (q := 178) (by decide +kernel) rfl ?_
  refine z_dup2 (q := 179) (by decide +kernel) rfl rfl rfl ?_
  refine z_iald (q := 180) (Or.inl ⟨rfl, rfl⟩) (by decide +kernel) rfl fun x6 => ?_
  refine z_iconst (n := 1) (v := 1) (q := 181) (by decide +kernel) rfl (by decide) ?_
  refine z_iadd (q := 182) (by decide +kernel) rfl ?_
  refine z_iast (q := 183) (Or.inl ⟨rfl, rfl, rfl⟩) (by decide +kernel) rfl ?_
  refine z_iinc (j := 6) (n := 1) (v := 1) (q := 186) (by decide +kernel) rfl 4 rfl (by decide) (by decide) rfl ?_
  refine z_goto (off := (-100)) (t := 86) (by decide +kernel) (by decide) ?_
  refine zsub [1, 2, 3, 4, 0] rfl ?_
  exact hkc86 (v4, v6 + 1)
def lb_X5_season_99 (kc86 : (Int64 × Int32) → zAH → Option (Int32 × zAH)) (v0 : Nat) (v1 : Int32) (v3 : Int32) (v6 : Int32) (rec : (Int64 × Int32) → zAH → Option (Int32 × zAH)) (s : Int64 × Int32) : zAH → Option (Int32 × zAH) := fun h => (zgI 5 12 v0 h).bind fun x1 => if s.2 < x1 then if (2147483647 : Int64) = 0 then none else (zgA 5 14 v0 h).bind fun x2 => (zaI 0 x2 s.2 h).bind fun x3 => if (3 : Int64) = 0 then none else zbd (dn_X5_greater 1 ((x3 + (Int64.toInt32 (((48271 * s.1) % 2147483647) % 3))) - 1) h) fun x4 h5 => (zgA 5 15 v0 h5).bind fun x6 => (zaI 0 x6 s.2 h5).bind fun x7 => zbd (dn_X5_starts v0 s.2 x4 x7 h5) fun x8 h9 => rec ((48271 * s.1) % 2147483647, s.2 + 1) h9 else jn_X5_season_160 kc86 v0 v1 v3 s.1 v6 h
def lp_X5_season_99 (kc86 : (Int64 × Int32) → zAH → Option (Int32 × zAH)) (v0 : Nat) (v1 : Int32) (v3 : Int32) (v6 : Int32) (s : Int64 × Int32) : zAH → Option (Int32 × zAH) := zlp (lb_X5_season_99 kc86 v0 v1 v3 v6) 2000 s
theorem sl_X5_season_99 (g : zG) (l : Launch) (kc86 : (Int64 × Int32) → zAH → Option (Int32 × zAH)) (v0 : Nat) (v1 : Int32) (v3 : Int32) (v6 : Int32) (hkc86 : ∀ s, zSm g l cX5_season 8 RX5 "season" (some .int) 6 134 zrI 86 [(0, .ref v0), (1, .int v1), (3, .int v3), (4, .long s.1), (6, .int s.2)] [] (kc86 s)) (s : Int64 × Int32) : zSm g l cX5_season 8 RX5 "season" (some .int) 6 134 zrI 99 [(0, .ref v0), (1, .int v1), (3, .int v3), (4, .long s.1), (6, .int v6), (7, .int s.2)] [] (lp_X5_season_99 kc86 v0 v1 v3 v6 s) := by
  unfold lp_X5_season_99
  refine z_loop (lvf := fun s => [(0, .ref v0), (1, .int v1), (3, .int v3), (4, .long s.1), (6, .int v6), (7, .int s.2)]) (fun rec hrec s => ?_) 2000 s
  unfold lb_X5_season_99
  refine z_iload (j := 7) (q := 101) (by decide +kernel) rfl 5 rfl ?_
  refine z_aload_n (j := 0) (q := 102) (by decide +kernel) rfl 0 rfl ?_
  refine z_getI (q := 105) zf_RX5_147 (by decide +kernel) rfl fun x1 => ?_
  refine z_icmp_ge (off := 55) (t := 160) (q := 108) (by decide +kernel) (by decide) rfl ?_ ?_
  · refine zsub [0, 1, 2, 3, 4] rfl ?_
    exact sj_X5_season_160 g l kc86 v0 v1 v3 s.1 v6 hkc86
  · refine z_ldc2 (i := 294) (v := 48271) (q := 111) (by decide +kernel) rfl zw1248 ?_
    refine z_lload (j := 4) (q := 113) (by decide +kernel) rfl 3 rfl ?_
    refine z_lmul (q := 114) (by decide +kernel) rfl ?_
    refine z_ldc2 (i := 296) (v := 2147483647) (q := 117) (by decide +kernel) rfl zw1249 ?_
    refine z_lrem (q := 118) (by decide +kernel) rfl ?_
    refine z_lstore (j := 4) (q := 120) (by decide +kernel) rfl (by decide) rfl ?_
    refine z_aload_n (j := 0) (q := 121) (by decide +kernel) rfl 1 rfl ?_
    refine z_iload (j := 7) (q := 123) (by decide +kernel) rfl 5 rfl ?_
    refine z_iconst (n := 1) (v := 1) (q := 124) (by decide +kernel) rfl (by decide) ?_
    refine z_aload_n (j := 0) (q := 125) (by decide +kernel) rfl 1 rfl ?_
    refine z_getA (q := 128) zf_RX5_35 (by decide +kernel) rfl fun x2 => ?_
    refine z_iload (j := 7) (q := 130) (by decide +kernel) rfl 5 rfl ?_
    refine z_iald (q := 131) (Or.inl ⟨rfl, rfl⟩) (by decide +kernel) rfl fun x3 => ?_
    refine z_lload (j := 4) (q := 133) (by decide +kernel) rfl 0 rfl ?_
    refine z_ldc2 (i := 298) (v := 3) (q := 136) (by decide +kernel) rfl zw1250 ?_
    refine z_lrem (q := 137) (by decide +kernel) rfl ?_
    refine z_l2i (q := 138) (by decide +kernel) rfl ?_
    refine z_iadd (q := 139) (by decide +kernel) rfl ?_
    refine z_iconst (n := 1) (v := 1) (q := 140) (by decide +kernel) rfl (by decide) ?_
    refine z_isub (q := 141) (by decide +kernel) rfl ?_
    refine z_callSI (As := [.int 1, .int ((x3 + (Int64.toInt32 (((48271 * s.1) % 2147483647) % 3))) - 1)]) (st := [.int s.2, .ref v0]) (q := 144) (ct_X5_greater g l 1 ((x3 + (Int64.toInt32 (((48271 * s.1) % 2147483647) % 3))) - 1)) zm_RX5_281 rfl (by decide) (by decide) (Nat.le_of_ble_eq_true rfl) rfl (by decide +kernel) rfl fun x4 => ?_
    refine z_aload_n (j := 0) (q := 145) (by decide +kernel) rfl 1 rfl ?_
    refine z_getA (q := 148) zf_RX5_38 (by decide +kernel) rfl fun x6 => ?_
    refine z_iload (j := 7) (q := 150) (by decide +kernel) rfl 5 rfl ?_
    refine z_iald (q := 151) (Or.inl ⟨rfl, rfl⟩) (by decide +kernel) rfl fun x7 => ?_
    refine z_callVU (As := [.int s.2, .int x4, .int x7]) (st := []) (q := 154) (ct_X5_starts g l v0 s.2 x4 x7) zm_RX5_186 (rc_X5_starts v0 s.2 x4 x7) rfl (by decide) (by decide) (Nat.le_of_ble_eq_true rfl) rfl (by decide +kernel) rfl fun x8 => ?_
    refine z_iinc (j := 7) (n := 1) (v := 1) (q := 157) (by decide +kernel) rfl 5 rfl (by decide) (by decide) rfl ?_
    refine z_goto (off := (-58)) (t := 99) (by decide +kernel) (by decide) ?_
    refine zsub [2, 3, 4, 1, 5, 0] rfl ?_
    exact hrec ((48271 * s.1) % 2147483647, s.2 + 1)
def jn_X5_season_228 (kc195 : (Int32 × Int32) → zAH → Option (Int32 × zAH)) (v0 : Nat) (v3 : Int32) (v7 : Int32) (w0 : Int32) : zAH → Option (Int32 × zAH) := fun h => kc195 (w0, v7 + 1) h
theorem sj_X5_season_228 (g : zG) (l : Launch) (kc195 : (Int32 × Int32) → zAH → Option (Int32 × zAH)) (v0 : Nat) (v3 : Int32) (v7 : Int32) (w0 : Int32) (hkc195 : ∀ s, zSm g l cX5_season 8 RX5 "season" (some .int) 6 134 zrI 195 [(0, .ref v0), (3, .int v3), (6, .int s.1), (7, .int s.2)] [] (kc195 s)) : zSm g l cX5_season 8 RX5 "season" (some .int) 6 134 zrI 228 [(0, .ref v0), (3, .int v3), (7, .int v7)] [.int w0] (jn_X5_season_228 kc195 v0 v3 v7 w0) := by
  unfold jn_X5_season_228
  refine z_istore (j := 6) (q := 230) (by decide +kernel) rfl (by decide) rfl ?_
  refine z_iinc (j := 7) (n := 1) (v := 1) (q := 233) (by decide +kernel) rfl 3 rfl (by decide) (by decide) rfl ?_
  refine z_goto (off := (-38)) (t := 195) (by decide +kernel) (by decide) ?_
  refine zsub [2, 3, 1, 0] rfl ?_
  exact hkc195 (w0, v7 + 1)
def jn_X5_season_236 (v6 : Int32) : zAH → Option (Int32 × zAH) := fun h => some (v6, h)
theorem sj_X5_season_236 (g : zG) (l : Launch) (v6 : Int32) : zSm g l cX5_season 8 RX5 "season" (some .int) 6 134 zrI 236 [(6, .int v6)] [] (jn_X5_season_236 v6) := by
  unfold jn_X5_season_236
  refine z_iload (j := 6) (q := 238) (by decide +kernel) rfl 0 rfl ?_
  exact z_iret (by decide +kernel)
def lb_X5_season_195 (v0 : Nat) (v3 : Int32) (rec : (Int32 × Int32) → zAH → Option (Int32 × zAH)) (s : Int32 × Int32) : zAH → Option (Int32 × zAH) := fun h => (zgI 5 12 v0 h).bind fun x1 => if s.2 < x1 then zbd (dn_X5_rowAt v0 v3 s.2 h) fun x2 h3 => zbd (dn_X5_rowAt v0 v3 s.1 h3) fun x4 h5 => if x4 < x2 then jn_X5_season_228 rec v0 v3 s.2 s.2 h5 else jn_X5_season_228 rec v0 v3 s.2 s.1 h5 else jn_X5_season_236 s.1 h
def lp_X5_season_195 (v0 : Nat) (v3 : Int32) (s : Int32 × Int32) : zAH → Option (Int32 × zAH) := zlp (lb_X5_season_195 v0 v3) 2000 s
theorem sl_X5_season_195 (g : zG) (l : Launch) (v0 : Nat) (v3 : Int32) (s : Int32 × Int32) : zSm g l cX5_season 8 RX5 "season" (some .int) 6 134 zrI 195 [(0, .ref v0), (3, .int v3), (6, .int s.1), (7, .int s.2)] [] (lp_X5_season_195 v0 v3 s) := by
  unfold lp_X5_season_195
  refine z_loop (lvf := fun s => [(0, .ref v0), (3, .int v3), (6, .int s.1), (7, .int s.2)]) (fun rec hrec s => ?_) 2000 s
  unfold lb_X5_season_195
  refine z_iload (j := 7) (q := 197) (by decide +kernel) rfl 3 rfl ?_
  refine z_aload_n (j := 0) (q := 198) (by decide +kernel) rfl 0 rfl ?_
  refine z_getI (q := 201) zf_RX5_147 (by decide +kernel) rfl fun x1 => ?_
  refine z_icmp_ge (off := 35) (t := 236) (q := 204) (by decide +kernel) (by decide) rfl ?_ ?_
  · refine zsub [2] rfl ?_
    exact sj_X5_season_236 g l s.1
  · refine z_aload_n (j := 0) (q := 205) (by decide +kernel) rfl 0 rfl ?_
    refine z_iload_n (j := 3) (q := 206) (by decide +kernel) rfl 1 rfl ?_
    refine z_iload (j := 7) (q := 208) (by decide +kernel) rfl 3 rfl ?_
    refine z_callVI (As := [.int v3, .int s.2]) (st := []) (q := 211) (ct_X5_rowAt g l v0 v3 s.2) zm_RX5_104 (rc_X5_rowAt v0 v3 s.2) rfl (by decide) (by decide) (Nat.le_of_ble_eq_true rfl) rfl (by decide +kernel) rfl fun x2 => ?_
    refine z_aload_n (j := 0) (q := 212) (by decide +kernel) rfl 0 rfl ?_
    refine z_iload_n (j := 3) (q := 213) (by decide +kernel) rfl 1 rfl ?_
    refine z_iload (j := 6) (q := 215) (by decide +kernel) rfl 2 rfl ?_
    refine z_callVI (As := [.int v3, .int s.1]) (st := [.int x2]) (q := 218) (ct_X5_rowAt g l v0 v3 s.1) zm_RX5_104 (rc_X5_rowAt v0 v3 s.1) rfl (by decide) (by decide) (Nat.le_of_ble_eq_true rfl) rfl (by decide +kernel) rfl fun x4 => ?_
    refine z_icmp_le (off := 8) (t := 226) (q := 221) (by decide +kernel) (by decide) rfl ?_ ?_
    · refine z_iload (j := 6) (q := 228) (by decide +kernel) rfl 2 rfl ?_
      refine zsub [0, 1, 3] rfl ?_
      exact sj_X5_season_228 g l rec v0 v3 s.2 s.1 hrec
    · refine z_iload (j := 7) (q := 223) (by decide +kernel) rfl 3 rfl ?_
      refine z_goto (off := 5) (t := 228) (by decide +kernel) (by decide) ?_
      refine zsub [0, 1, 3] rfl ?_
      exact sj_X5_season_228 g l rec v0 v3 s.2 s.2 hrec
def jn_X5_season_189 (v0 : Nat) (v3 : Int32) : zAH → Option (Int32 × zAH) := fun h => lp_X5_season_195 v0 v3 (0, 1) h
theorem sj_X5_season_189 (g : zG) (l : Launch) (v0 : Nat) (v3 : Int32) : zSm g l cX5_season 8 RX5 "season" (some .int) 6 134 zrI 189 [(0, .ref v0), (3, .int v3)] [] (jn_X5_season_189 v0 v3) := by
  unfold jn_X5_season_189
  refine z_iconst (n := 0) (v := 0) (q := 190) (by decide +kernel) rfl (by decide) ?_
  refine z_istore (j := 6) (q := 192) (by decide +kernel) rfl (by decide) rfl ?_
  refine z_iconst (n := 1) (v := 1) (q := 193) (by decide +kernel) rfl (by decide) ?_
  refine z_istore (j := 7) (q := 195) (by decide +kernel) rfl (by decide) rfl ?_
  refine zsub [2, 3, 1, 0] rfl ?_
  exact sl_X5_season_195 g l v0 v3 (0, 1)
def lb_X5_season_86 (v0 : Nat) (v1 : Int32) (v3 : Int32) (rec : (Int64 × Int32) → zAH → Option (Int32 × zAH)) (s : Int64 × Int32) : zAH → Option (Int32 × zAH) := fun h => if s.2 < v1 then zbd (dn_X5_layWhole v0 h) fun x1 h2 => lp_X5_season_99 rec v0 v1 v3 s.2 (s.1, 0) h2 else jn_X5_season_189 v0 v3 h
def lp_X5_season_86 (v0 : Nat) (v1 : Int32) (v3 : Int32) (s : Int64 × Int32) : zAH → Option (Int32 × zAH) := zlp (lb_X5_season_86 v0 v1 v3) 2000 s
theorem sl_X5_season_86 (g : zG) (l : Launch) (v0 : Nat) (v1 : Int32) (v3 : Int32) (s : Int64 × Int32) : zSm g l cX5_season 8 RX5 "season" (some .int) 6 134 zrI 86 [(0, .ref v0), (1, .int v1), (3, .int v3), (4, .long s.1), (6, .int s.2)] [] (lp_X5_season_86 v0 v1 v3 s) := by
  unfold lp_X5_season_86
  refine z_loop (lvf := fun s => [(0, .ref v0), (1, .int v1), (3, .int v3), (4, .long s.1), (6, .int s.2)]) (fun rec hrec s => ?_) 2000 s
  unfold lb_X5_season_86
  refine z_iload (j := 6) (q := 88) (by decide +kernel) rfl 4 rfl ?_
  refine z_iload_n (j := 1) (q := 89) (by decide +kernel) rfl 1 rfl ?_
  refine z_icmp_ge (off := 100) (t := 189) (q := 92) (by decide +kernel) (by decide) rfl ?_ ?_
  · refine zsub [0, 2] rfl ?_
    exact sj_X5_season_189 g l v0 v3
  · refine z_aload_n (j := 0) (q := 93) (by decide +kernel) rfl 0 rfl ?_
    refine z_callVU (As := []) (st := []) (q := 96) (ct_X5_layWhole g l v0) zm_RX5_278 (rc_X5_layWhole v0) rfl (by decide) (by decide) (Nat.le_of_ble_eq_true rfl) rfl (by decide +kernel) rfl fun x1 => ?_
    refine z_iconst (n := 0) (v := 0) (q := 97) (by decide +kernel) rfl (by decide) ?_
    refine z_istore (j := 7) (q := 99) (by decide +kernel) rfl (by decide) rfl ?_
    refine zsub [1, 2, 3, 4, 5, 0] rfl ?_
    exact sl_X5_season_99 g l rec v0 v1 v3 s.2 hrec (s.1, 0)
def jn_X5_season_79 (v0 : Nat) (v1 : Int32) (v2 : Int32) (v3 : Int32) : zAH → Option (Int32 × zAH) := fun h => lp_X5_season_86 v0 v1 v3 (Int32.toInt64 v2, 0) h
theorem sj_X5_season_79 (g : zG) (l : Launch) (v0 : Nat) (v1 : Int32) (v2 : Int32) (v3 : Int32) : zSm g l cX5_season 8 RX5 "season" (some .int) 6 134 zrI 79 [(0, .ref v0), (1, .int v1), (2, .int v2), (3, .int v3)] [] (jn_X5_season_79 v0 v1 v2 v3) := by
  unfold jn_X5_season_79
  refine z_iload_n (j := 2) (q := 80) (by decide +kernel) rfl 2 rfl ?_
  refine z_i2l (q := 81) (by decide +kernel) rfl ?_
  refine z_lstore (j := 4) (q := 83) (by decide +kernel) rfl (by decide) rfl ?_
  refine z_iconst (n := 0) (v := 0) (q := 84) (by decide +kernel) rfl (by decide) ?_
  refine z_istore (j := 6) (q := 86) (by decide +kernel) rfl (by decide) rfl ?_
  refine zsub [2, 3, 5, 1, 0] rfl ?_
  exact sl_X5_season_86 g l v0 v1 v3 (Int32.toInt64 v2, 0)
def lb_X5_season_53 (v0 : Nat) (v1 : Int32) (v2 : Int32) (v3 : Int32) (rec : (Int32) → zAH → Option (Int32 × zAH)) (s : Int32) : zAH → Option (Int32 × zAH) := fun h => if s < 60 then (zgA 5 6 v0 h).bind fun x1 => (zaS 0 x1 ((60 * v3) + s) 0 h).bind fun h2 => rec (s + 1) h2 else jn_X5_season_79 v0 v1 v2 v3 h
def lp_X5_season_53 (v0 : Nat) (v1 : Int32) (v2 : Int32) (v3 : Int32) (s : Int32) : zAH → Option (Int32 × zAH) := zlp (lb_X5_season_53 v0 v1 v2 v3) 2000 s
theorem sl_X5_season_53 (g : zG) (l : Launch) (v0 : Nat) (v1 : Int32) (v2 : Int32) (v3 : Int32) (s : Int32) : zSm g l cX5_season 8 RX5 "season" (some .int) 6 134 zrI 53 [(0, .ref v0), (1, .int v1), (2, .int v2), (3, .int v3), (4, .int s)] [] (lp_X5_season_53 v0 v1 v2 v3 s) := by
  unfold lp_X5_season_53
  refine z_loop (lvf := fun s => [(0, .ref v0), (1, .int v1), (2, .int v2), (3, .int v3), (4, .int s)]) (fun rec hrec s => ?_) 2000 s
  unfold lb_X5_season_53
  refine z_iload (j := 4) (q := 55) (by decide +kernel) rfl 4 rfl ?_
  refine z_bipush (n := 60) (v := 60) (q := 57) (by decide +kernel) rfl (by decide) ?_
  refine z_icmp_ge (off := 22) (t := 79) (q := 60) (by decide +kernel) (by decide) rfl ?_ ?_
  · refine zsub [0, 1, 2, 3] rfl ?_
    exact sj_X5_season_79 g l v0 v1 v2 v3
  · refine z_aload_n (j := 0) (q := 61) (by decide +kernel) rfl 0 rfl ?_
    refine z_getA (q := 64) zf_RX5_16 (by decide +kernel) rfl fun x1 => ?_
    refine z_bipush (n := 60) (v := 60) (q := 66) (by decide +kernel) rfl (by decide) ?_
    refine z_iload_n (j := 3) (q := 67) (by decide +kernel) rfl 3 rfl ?_
    refine z_imul (q := 68) (by decide +kernel) rfl ?_
    refine z_iload (j := 4) (q := 70) (by decide +kernel) rfl 4 rfl ?_
    refine z_iadd (q := 71) (by decide +kernel) rfl ?_
    refine z_iconst (n := 0) (v := 0) (q := 72) (by decide +kernel) rfl (by decide) ?_
    refine z_iast (q := 73) (Or.inl ⟨rfl, rfl, rfl⟩) (by decide +kernel) rfl ?_
    refine z_iinc (j := 4) (n := 1) (v := 1) (q := 76) (by decide +kernel) rfl 4 rfl (by decide) (by decide) rfl ?_
    refine z_goto (off := (-23)) (t := 53) (by decide +kernel) (by decide) ?_
    refine zsub [1, 2, 3, 4, 0] rfl ?_
    exact hrec (s + 1)
def dn_X5_season (v0 : Nat) (v1 : Int32) (v2 : Int32) (v3 : Int32) : zAH → Option (Int32 × zAH) := fun h => (zgO 5 v0 h).bind fun _ => zbd (dn_X5_in v1 1 40 h) fun x1 h2 => if x1 = 0 then jn_X5_season_28 h2 else zbd (dn_X5_in v2 1 2147483646 h2) fun x3 h4 => if x3 = 0 then jn_X5_season_28 h4 else zbd (dn_X5_isRow v3 h4) fun x5 h6 => if x5 = 0 then jn_X5_season_28 h6 else (zgI 5 12 v0 h6).bind fun x7 => if x7 = 0 then some ((-4), h6) else (zgA 5 5 v0 h6).bind fun x8 => (zgI 5 12 v0 h6).bind fun x9 => (zaS 0 x8 v3 x9 h6).bind fun h10 => lp_X5_season_53 v0 v1 v2 v3 0 h10
theorem ct_X5_season (g : zG) (l : Launch) (v0 : Nat) (v1 : Int32) (v2 : Int32) (v3 : Int32) : zCt g l yX5_season cX5_season 8 (some .int) 6 134 zrI [.ref v0, .int v1, .int v2, .int v3] (dn_X5_season v0 v1 v2 v3) := by
  refine zCt_of (lv := [(0, .ref v0), (1, .int v1), (2, .int v2), (3, .int v3)]) (by decide +kernel) (Nat.le_of_ble_eq_true rfl) rfl ?_
  show zSm g l cX5_season 8 RX5 "season" (some .int) 6 134 zrI 0 [(0, .ref v0), (1, .int v1), (2, .int v2), (3, .int v3)] [] (dn_X5_season v0 v1 v2 v3)
  unfold dn_X5_season
  refine z_rec ?_
  refine z_iload_n (j := 1) (q := 1) (by decide +kernel) rfl 1 rfl ?_
  refine z_iconst (n := 1) (v := 1) (q := 2) (by decide +kernel) rfl (by decide) ?_
  refine z_bipush (n := 40) (v := 40) (q := 4) (by decide +kernel) rfl (by decide) ?_
  refine z_callSI (As := [.int v1, .int 1, .int 40]) (st := []) (q := 7) (ct_X5_in g l v1 1 40) zm_RX5_86 rfl (by decide) (by decide) (Nat.le_of_ble_eq_true rfl) rfl (by decide +kernel) rfl fun x1 => ?_
  refine z_if_eq (off := 21) (t := 28) (q := 10) (by decide +kernel) (by decide) rfl ?_ ?_
  · refine zsub [] rfl ?_
    exact sj_X5_season_28 g l 
  · refine z_iload_n (j := 2) (q := 11) (by decide +kernel) rfl 2 rfl ?_
    refine z_iconst (n := 1) (v := 1) (q := 12) (by decide +kernel) rfl (by decide) ?_
    refine z_ldcw (i := 293) (v := 2147483646) (q := 15) (by decide +kernel) rfl zw1247 ?_
    refine z_callSI (As := [.int v2, .int 1, .int 2147483646]) (st := []) (q := 18) (ct_X5_in g l v2 1 2147483646) zm_RX5_86 rfl (by decide) (by decide) (Nat.le_of_ble_eq_true rfl) rfl (by decide +kernel) rfl fun x3 => ?_
    refine z_if_eq (off := 10) (t := 28) (q := 21) (by decide +kernel) (by decide) rfl ?_ ?_
    · refine zsub [] rfl ?_
      exact sj_X5_season_28 g l 
    · refine z_iload_n (j := 3) (q := 22) (by decide +kernel) rfl 3 rfl ?_
      refine z_callSI (As := [.int v3]) (st := []) (q := 25) (ct_X5_isRow g l v3) zm_RX5_96 rfl (by decide) (by decide) (Nat.le_of_ble_eq_true rfl) rfl (by decide +kernel) rfl fun x5 => ?_
      refine z_if_ne (off := 5) (t := 30) (q := 28) (by decide +kernel) (by decide) rfl ?_ ?_
      · refine z_aload_n (j := 0) (q := 31) (by decide +kernel) rfl 0 rfl ?_
        refine z_getI (q := 34) zf_RX5_147 (by decide +kernel) rfl fun x7 => ?_
        refine z_if_ne (off := 6) (t := 40) (q := 37) (by decide +kernel) (by decide) rfl ?_ ?_
        · refine z_aload_n (j := 0) (q := 41) (by decide +kernel) rfl 0 rfl ?_
          refine z_getA (q := 44) zf_RX5_13 (by decide +kernel) rfl fun x8 => ?_
          refine z_iload_n (j := 3) (q := 45) (by decide +kernel) rfl 3 rfl ?_
          refine z_aload_n (j := 0) (q := 46) (by decide +kernel) rfl 0 rfl ?_
          refine z_getI (q := 49) zf_RX5_147 (by decide +kernel) rfl fun x9 => ?_
          refine z_iast (q := 50) (Or.inl ⟨rfl, rfl, rfl⟩) (by decide +kernel) rfl ?_
          refine z_iconst (n := 0) (v := 0) (q := 51) (by decide +kernel) rfl (by decide) ?_
          refine z_istore (j := 4) (q := 53) (by decide +kernel) rfl (by decide) rfl ?_
          refine zsub [1, 2, 3, 4, 0] rfl ?_
          exact sl_X5_season_53 g l v0 v1 v2 v3 0
        · refine z_bipush (n := (-4)) (v := (-4)) (q := 39) (by decide +kernel) rfl (by decide) ?_
          exact z_iret (by decide +kernel)
      · refine zsub [] rfl ?_
        exact sj_X5_season_28 g l 
theorem rc_X5_season (v0 : Nat) (v1 : Int32) (v2 : Int32) (v3 : Int32) : ∀ h x, dn_X5_season v0 v1 v2 v3 h = some x → ∃ fs, zgO 5 v0 h = some fs := fun h x hd => by
  obtain ⟨fs, e, -⟩ := Option.bind_eq_some_iff.mp hd
  exact ⟨fs, e⟩
def jn_X5_counted_49 (kc9 : (Int32 × Int32) → zAH → Option (Int32 × zAH)) (v0 : Nat) (v1 : Int32) (v3 : Int32) (w0 : Int32) (w1 : Int32) : zAH → Option (Int32 × zAH) := fun h => kc9 (w0 + w1, v3 + 1) h
theorem sj_X5_counted_49 (g : zG) (l : Launch) (kc9 : (Int32 × Int32) → zAH → Option (Int32 × zAH)) (v0 : Nat) (v1 : Int32) (v3 : Int32) (w0 : Int32) (w1 : Int32) (hkc9 : ∀ s, zSm g l cX5_counted 4 RX5 "counted" (some .int) 2 42 zrI 9 [(0, .ref v0), (1, .int v1), (2, .int s.1), (3, .int s.2)] [] (kc9 s)) : zSm g l cX5_counted 4 RX5 "counted" (some .int) 2 42 zrI 49 [(0, .ref v0), (1, .int v1), (3, .int v3)] [.int w1, .int w0] (jn_X5_counted_49 kc9 v0 v1 v3 w0 w1) := by
  unfold jn_X5_counted_49
  refine z_iadd (q := 50) (by decide +kernel) rfl ?_
  refine z_istore_n (j := 2) (q := 51) (by decide +kernel) rfl (by decide) rfl ?_
  refine z_iinc (j := 3) (n := 1) (v := 1) (q := 54) (by decide +kernel) rfl 3 rfl (by decide) (by decide) rfl ?_
  refine z_goto (off := (-45)) (t := 9) (by decide +kernel) (by decide) ?_
  refine zsub [2, 3, 1, 0] rfl ?_
  exact hkc9 (w0 + w1, v3 + 1)
def jn_X5_counted_44 (kc9 : (Int32 × Int32) → zAH → Option (Int32 × zAH)) (v0 : Nat) (v1 : Int32) (v3 : Int32) (w0 : Int32) : zAH → Option (Int32 × zAH) := fun h => jn_X5_counted_49 kc9 v0 v1 v3 w0 1 h
theorem sj_X5_counted_44 (g : zG) (l : Launch) (kc9 : (Int32 × Int32) → zAH → Option (Int32 × zAH)) (v0 : Nat) (v1 : Int32) (v3 : Int32) (w0 : Int32) (hkc9 : ∀ s, zSm g l cX5_counted 4 RX5 "counted" (some .int) 2 42 zrI 9 [(0, .ref v0), (1, .int v1), (2, .int s.1), (3, .int s.2)] [] (kc9 s)) : zSm g l cX5_counted 4 RX5 "counted" (some .int) 2 42 zrI 44 [(0, .ref v0), (1, .int v1), (3, .int v3)] [.int w0] (jn_X5_counted_44 kc9 v0 v1 v3 w0) := by
  unfold jn_X5_counted_44
  refine z_iconst (n := 1) (v := 1) (q := 45) (by decide +kernel) rfl (by decide) ?_
  refine z_goto (off := 4) (t := 49) (by decide +kernel) (by decide) ?_
  refine zsub [0, 1, 2] rfl ?_
  exact sj_X5_counted_49 g l kc9 v0 v1 v3 w0 1 hkc9
def jn_X5_counted_48 (kc9 : (Int32 × Int32) → zAH → Option (Int32 × zAH)) (v0 : Nat) (v1 : Int32) (v3 : Int32) (w0 : Int32) : zAH → Option (Int32 × zAH) := fun h => jn_X5_counted_49 kc9 v0 v1 v3 w0 0 h
theorem sj_X5_counted_48 (g : zG) (l : Launch) (kc9 : (Int32 × Int32) → zAH → Option (Int32 × zAH)) (v0 : Nat) (v1 : Int32) (v3 : Int32) (w0 : Int32) (hkc9 : ∀ s, zSm g l cX5_counted 4 RX5 "counted" (some .int) 2 42 zrI 9 [(0, .ref v0), (1, .int v1), (2, .int s.1), (3, .int s.2)] [] (kc9 s)) : zSm g l cX5_counted 4 RX5 "counted" (some .int) 2 42 zrI 48 [(0, .ref v0), (1, .int v1), (3, .int v3)] [.int w0] (jn_X5_counted_48 kc9 v0 v1 v3 w0) := by
  unfold jn_X5_counted_48
  refine z_iconst (n := 0) (v := 0) (q := 49) (by decide +kernel) rfl (by decide) ?_
  refine zsub [0, 1, 2] rfl ?_
  exact sj_X5_counted_49 g l kc9 v0 v1 v3 w0 0 hkc9
def jn_X5_counted_31 (kc9 : (Int32 × Int32) → zAH → Option (Int32 × zAH)) (v0 : Nat) (v1 : Int32) (v3 : Int32) (w0 : Int32) : zAH → Option (Int32 × zAH) := fun h => if v1 = 4 then zbd (dn_X5_isGoat v0 v3 h) fun x1 h2 => if x1 = 0 then jn_X5_counted_48 kc9 v0 v1 v3 w0 h2 else jn_X5_counted_44 kc9 v0 v1 v3 w0 h2 else jn_X5_counted_48 kc9 v0 v1 v3 w0 h
theorem sj_X5_counted_31 (g : zG) (l : Launch) (kc9 : (Int32 × Int32) → zAH → Option (Int32 × zAH)) (v0 : Nat) (v1 : Int32) (v3 : Int32) (w0 : Int32) (hkc9 : ∀ s, zSm g l cX5_counted 4 RX5 "counted" (some .int) 2 42 zrI 9 [(0, .ref v0), (1, .int v1), (2, .int s.1), (3, .int s.2)] [] (kc9 s)) : zSm g l cX5_counted 4 RX5 "counted" (some .int) 2 42 zrI 31 [(0, .ref v0), (1, .int v1), (3, .int v3)] [.int w0] (jn_X5_counted_31 kc9 v0 v1 v3 w0) := by
  unfold jn_X5_counted_31
  refine z_iload_n (j := 1) (q := 32) (by decide +kernel) rfl 1 rfl ?_
  refine z_iconst (n := 4) (v := 4) (q := 33) (by decide +kernel) rfl (by decide) ?_
  refine z_icmp_ne (off := 15) (t := 48) (q := 36) (by decide +kernel) (by decide) rfl ?_ ?_
  · refine zsub [0, 1, 2] rfl ?_
    exact sj_X5_counted_48 g l kc9 v0 v1 v3 w0 hkc9
  · refine z_aload_n (j := 0) (q := 37) (by decide +kernel) rfl 0 rfl ?_
    refine z_iload_n (j := 3) (q := 38) (by decide +kernel) rfl 2 rfl ?_
    refine z_callVI (As := [.int v3]) (st := [.int w0]) (q := 41) (ct_X5_isGoat g l v0 v3) zm_RX5_166 (rc_X5_isGoat v0 v3) rfl (by decide) (by decide) (Nat.le_of_ble_eq_true rfl) rfl (by decide +kernel) rfl fun x1 => ?_
    refine z_if_eq (off := 7) (t := 48) (q := 44) (by decide +kernel) (by decide) rfl ?_ ?_
    · refine zsub [0, 1, 2] rfl ?_
      exact sj_X5_counted_48 g l kc9 v0 v1 v3 w0 hkc9
    · refine zsub [0, 1, 2] rfl ?_
      exact sj_X5_counted_44 g l kc9 v0 v1 v3 w0 hkc9
def jn_X5_counted_84 (kc59 : (Int32 × Int32) → zAH → Option (Int32 × zAH)) (v0 : Nat) (v1 : Int32) (v3 : Int32) (w0 : Int32) (w1 : Int32) : zAH → Option (Int32 × zAH) := fun h => kc59 (w0 + w1, v3 + 1) h
theorem sj_X5_counted_84 (g : zG) (l : Launch) (kc59 : (Int32 × Int32) → zAH → Option (Int32 × zAH)) (v0 : Nat) (v1 : Int32) (v3 : Int32) (w0 : Int32) (w1 : Int32) (hkc59 : ∀ s, zSm g l cX5_counted 4 RX5 "counted" (some .int) 2 42 zrI 59 [(0, .ref v0), (1, .int v1), (2, .int s.1), (3, .int s.2)] [] (kc59 s)) : zSm g l cX5_counted 4 RX5 "counted" (some .int) 2 42 zrI 84 [(0, .ref v0), (1, .int v1), (3, .int v3)] [.int w1, .int w0] (jn_X5_counted_84 kc59 v0 v1 v3 w0 w1) := by
  unfold jn_X5_counted_84
  refine z_iadd (q := 85) (by decide +kernel) rfl ?_
  refine z_istore_n (j := 2) (q := 86) (by decide +kernel) rfl (by decide) rfl ?_
  refine z_iinc (j := 3) (n := 1) (v := 1) (q := 89) (by decide +kernel) rfl 3 rfl (by decide) (by decide) rfl ?_
  refine z_goto (off := (-30)) (t := 59) (by decide +kernel) (by decide) ?_
  refine zsub [2, 3, 1, 0] rfl ?_
  exact hkc59 (w0 + w1, v3 + 1)
def jn_X5_counted_83 (kc59 : (Int32 × Int32) → zAH → Option (Int32 × zAH)) (v0 : Nat) (v1 : Int32) (v3 : Int32) (w0 : Int32) : zAH → Option (Int32 × zAH) := fun h => jn_X5_counted_84 kc59 v0 v1 v3 w0 0 h
theorem sj_X5_counted_83 (g : zG) (l : Launch) (kc59 : (Int32 × Int32) → zAH → Option (Int32 × zAH)) (v0 : Nat) (v1 : Int32) (v3 : Int32) (w0 : Int32) (hkc59 : ∀ s, zSm g l cX5_counted 4 RX5 "counted" (some .int) 2 42 zrI 59 [(0, .ref v0), (1, .int v1), (2, .int s.1), (3, .int s.2)] [] (kc59 s)) : zSm g l cX5_counted 4 RX5 "counted" (some .int) 2 42 zrI 83 [(0, .ref v0), (1, .int v1), (3, .int v3)] [.int w0] (jn_X5_counted_83 kc59 v0 v1 v3 w0) := by
  unfold jn_X5_counted_83
  refine z_iconst (n := 0) (v := 0) (q := 84) (by decide +kernel) rfl (by decide) ?_
  refine zsub [0, 1, 2] rfl ?_
  exact sj_X5_counted_84 g l kc59 v0 v1 v3 w0 0 hkc59
def jn_X5_counted_121 (kc94 : (Int32 × Int32) → zAH → Option (Int32 × zAH)) (v0 : Nat) (v1 : Int32) (v3 : Int32) (w0 : Int32) (w1 : Int32) : zAH → Option (Int32 × zAH) := fun h => kc94 (w0 + w1, v3 + 1) h
theorem sj_X5_counted_121 (g : zG) (l : Launch) (kc94 : (Int32 × Int32) → zAH → Option (Int32 × zAH)) (v0 : Nat) (v1 : Int32) (v3 : Int32) (w0 : Int32) (w1 : Int32) (hkc94 : ∀ s, zSm g l cX5_counted 4 RX5 "counted" (some .int) 2 42 zrI 94 [(0, .ref v0), (1, .int v1), (2, .int s.1), (3, .int s.2)] [] (kc94 s)) : zSm g l cX5_counted 4 RX5 "counted" (some .int) 2 42 zrI 121 [(0, .ref v0), (1, .int v1), (3, .int v3)] [.int w1, .int w0] (jn_X5_counted_121 kc94 v0 v1 v3 w0 w1) := by
  unfold jn_X5_counted_121
  refine z_iadd (q := 122) (by decide +kernel) rfl ?_
  refine z_istore_n (j := 2) (q := 123) (by decide +kernel) rfl (by decide) rfl ?_
  refine z_iinc (j := 3) (n := 1) (v := 1) (q := 126) (by decide +kernel) rfl 3 rfl (by decide) (by decide) rfl ?_
  refine z_goto (off := (-32)) (t := 94) (by decide +kernel) (by decide) ?_
  refine zsub [2, 3, 1, 0] rfl ?_
  exact hkc94 (w0 + w1, v3 + 1)
def jn_X5_counted_120 (kc94 : (Int32 × Int32) → zAH → Option (Int32 × zAH)) (v0 : Nat) (v1 : Int32) (v3 : Int32) (w0 : Int32) : zAH → Option (Int32 × zAH) := fun h => jn_X5_counted_121 kc94 v0 v1 v3 w0 0 h
theorem sj_X5_counted_120 (g : zG) (l : Launch) (kc94 : (Int32 × Int32) → zAH → Option (Int32 × zAH)) (v0 : Nat) (v1 : Int32) (v3 : Int32) (w0 : Int32) (hkc94 : ∀ s, zSm g l cX5_counted 4 RX5 "counted" (some .int) 2 42 zrI 94 [(0, .ref v0), (1, .int v1), (2, .int s.1), (3, .int s.2)] [] (kc94 s)) : zSm g l cX5_counted 4 RX5 "counted" (some .int) 2 42 zrI 120 [(0, .ref v0), (1, .int v1), (3, .int v3)] [.int w0] (jn_X5_counted_120 kc94 v0 v1 v3 w0) := by
  unfold jn_X5_counted_120
  refine z_iconst (n := 0) (v := 0) (q := 121) (by decide +kernel) rfl (by decide) ?_
  refine zsub [0, 1, 2] rfl ?_
  exact sj_X5_counted_121 g l kc94 v0 v1 v3 w0 0 hkc94
def jn_X5_counted_157 (kc131 : (Int32 × Int32) → zAH → Option (Int32 × zAH)) (v0 : Nat) (v1 : Int32) (v3 : Int32) (w0 : Int32) (w1 : Int32) : zAH → Option (Int32 × zAH) := fun h => kc131 (w0 + w1, v3 + 1) h
theorem sj_X5_counted_157 (g : zG) (l : Launch) (kc131 : (Int32 × Int32) → zAH → Option (Int32 × zAH)) (v0 : Nat) (v1 : Int32) (v3 : Int32) (w0 : Int32) (w1 : Int32) (hkc131 : ∀ s, zSm g l cX5_counted 4 RX5 "counted" (some .int) 2 42 zrI 131 [(0, .ref v0), (1, .int v1), (2, .int s.1), (3, .int s.2)] [] (kc131 s)) : zSm g l cX5_counted 4 RX5 "counted" (some .int) 2 42 zrI 157 [(0, .ref v0), (1, .int v1), (3, .int v3)] [.int w1, .int w0] (jn_X5_counted_157 kc131 v0 v1 v3 w0 w1) := by
  unfold jn_X5_counted_157
  refine z_iadd (q := 158) (by decide +kernel) rfl ?_
  refine z_istore_n (j := 2) (q := 159) (by decide +kernel) rfl (by decide) rfl ?_
  refine z_iinc (j := 3) (n := 1) (v := 1) (q := 162) (by decide +kernel) rfl 3 rfl (by decide) (by decide) rfl ?_
  refine z_goto (off := (-31)) (t := 131) (by decide +kernel) (by decide) ?_
  refine zsub [2, 3, 1, 0] rfl ?_
  exact hkc131 (w0 + w1, v3 + 1)
def jn_X5_counted_156 (kc131 : (Int32 × Int32) → zAH → Option (Int32 × zAH)) (v0 : Nat) (v1 : Int32) (v3 : Int32) (w0 : Int32) : zAH → Option (Int32 × zAH) := fun h => jn_X5_counted_157 kc131 v0 v1 v3 w0 0 h
theorem sj_X5_counted_156 (g : zG) (l : Launch) (kc131 : (Int32 × Int32) → zAH → Option (Int32 × zAH)) (v0 : Nat) (v1 : Int32) (v3 : Int32) (w0 : Int32) (hkc131 : ∀ s, zSm g l cX5_counted 4 RX5 "counted" (some .int) 2 42 zrI 131 [(0, .ref v0), (1, .int v1), (2, .int s.1), (3, .int s.2)] [] (kc131 s)) : zSm g l cX5_counted 4 RX5 "counted" (some .int) 2 42 zrI 156 [(0, .ref v0), (1, .int v1), (3, .int v3)] [.int w0] (jn_X5_counted_156 kc131 v0 v1 v3 w0) := by
  unfold jn_X5_counted_156
  refine z_iconst (n := 0) (v := 0) (q := 157) (by decide +kernel) rfl (by decide) ?_
  refine zsub [0, 1, 2] rfl ?_
  exact sj_X5_counted_157 g l kc131 v0 v1 v3 w0 0 hkc131
def jn_X5_counted_202 (w0 : Int32) : zAH → Option (Int32 × zAH) := fun h => some (w0, h)
theorem sj_X5_counted_202 (g : zG) (l : Launch) (w0 : Int32) : zSm g l cX5_counted 4 RX5 "counted" (some .int) 2 42 zrI 202 [] [.int w0] (jn_X5_counted_202 w0) := by
  unfold jn_X5_counted_202
  exact z_iret (by decide +kernel)
def jn_X5_counted_165 (v0 : Nat) (v1 : Int32) (v2 : Int32) : zAH → Option (Int32 × zAH) := fun h => if v1 = 0 then (zgI 5 10 v0 h).bind fun x4 => jn_X5_counted_202 x4 h else if v1 = 1 then (zgI 5 12 v0 h).bind fun x3 => jn_X5_counted_202 x3 h else if v1 = 2 then zbd (dn_X5_v v0 0 h) fun x1 h2 => jn_X5_counted_202 x1 h2 else jn_X5_counted_202 v2 h
theorem sj_X5_counted_165 (g : zG) (l : Launch) (v0 : Nat) (v1 : Int32) (v2 : Int32) : zSm g l cX5_counted 4 RX5 "counted" (some .int) 2 42 zrI 165 [(0, .ref v0), (1, .int v1), (2, .int v2)] [] (jn_X5_counted_165 v0 v1 v2) := by
  unfold jn_X5_counted_165
  refine z_iload_n (j := 1) (q := 166) (by decide +kernel) rfl 1 rfl ?_
  refine z_if_ne (off := 10) (t := 176) (q := 169) (by decide +kernel) (by decide) rfl ?_ ?_
  · refine z_iload_n (j := 1) (q := 177) (by decide +kernel) rfl 1 rfl ?_
    refine z_iconst (n := 1) (v := 1) (q := 178) (by decide +kernel) rfl (by decide) ?_
    refine z_icmp_ne (off := 10) (t := 188) (q := 181) (by decide +kernel) (by decide) rfl ?_ ?_
    · refine z_iload_n (j := 1) (q := 189) (by decide +kernel) rfl 1 rfl ?_
      refine z_iconst (n := 2) (v := 2) (q := 190) (by decide +kernel) rfl (by decide) ?_
      refine z_icmp_ne (off := 11) (t := 201) (q := 193) (by decide +kernel) (by decide) rfl ?_ ?_
      · refine z_iload_n (j := 2) (q := 202) (by decide +kernel) rfl 2 rfl ?_
        refine zsub [] rfl ?_
        exact sj_X5_counted_202 g l v2
      · refine z_aload_n (j := 0) (q := 194) (by decide +kernel) rfl 0 rfl ?_
        refine z_iconst (n := 0) (v := 0) (q := 195) (by decide +kernel) rfl (by decide) ?_
        refine z_callVI (As := [.int 0]) (st := []) (q := 198) (ct_X5_v g l v0 0) zm_RX5_190 (rc_X5_v v0 0) rfl (by decide) (by decide) (Nat.le_of_ble_eq_true rfl) rfl (by decide +kernel) rfl fun x1 => ?_
        refine z_goto (off := 4) (t := 202) (by decide +kernel) (by decide) ?_
        refine zsub [] rfl ?_
        exact sj_X5_counted_202 g l x1
    · refine z_aload_n (j := 0) (q := 182) (by decide +kernel) rfl 0 rfl ?_
      refine z_getI (q := 185) zf_RX5_147 (by decide +kernel) rfl fun x3 => ?_
      refine z_goto (off := 17) (t := 202) (by decide +kernel) (by decide) ?_
      refine zsub [] rfl ?_
      exact sj_X5_counted_202 g l x3
  · refine z_aload_n (j := 0) (q := 170) (by decide +kernel) rfl 0 rfl ?_
    refine z_getI (q := 173) zf_RX5_144 (by decide +kernel) rfl fun x4 => ?_
    refine z_goto (off := 29) (t := 202) (by decide +kernel) (by decide) ?_
    refine zsub [] rfl ?_
    exact sj_X5_counted_202 g l x4
def lb_X5_counted_131 (v0 : Nat) (v1 : Int32) (rec : (Int32 × Int32) → zAH → Option (Int32 × zAH)) (s : Int32 × Int32) : zAH → Option (Int32 × zAH) := fun h => if s.2 < 4 then if v1 = 7 then (zgA 5 8 v0 h).bind fun x1 => (zaI 0 x1 s.2 h).bind fun x2 => if x2 < 0 then jn_X5_counted_156 rec v0 v1 s.2 s.1 h else jn_X5_counted_157 rec v0 v1 s.2 s.1 1 h else jn_X5_counted_156 rec v0 v1 s.2 s.1 h else jn_X5_counted_165 v0 v1 s.1 h
def lp_X5_counted_131 (v0 : Nat) (v1 : Int32) (s : Int32 × Int32) : zAH → Option (Int32 × zAH) := zlp (lb_X5_counted_131 v0 v1) 2000 s
theorem sl_X5_counted_131 (g : zG) (l : Launch) (v0 : Nat) (v1 : Int32) (s : Int32 × Int32) : zSm g l cX5_counted 4 RX5 "counted" (some .int) 2 42 zrI 131 [(0, .ref v0), (1, .int v1), (2, .int s.1), (3, .int s.2)] [] (lp_X5_counted_131 v0 v1 s) := by
  unfold lp_X5_counted_131
  refine z_loop (lvf := fun s => [(0, .ref v0), (1, .int v1), (2, .int s.1), (3, .int s.2)]) (fun rec hrec s => ?_) 2000 s
  unfold lb_X5_counted_131
  refine z_iload_n (j := 3) (q := 132) (by decide +kernel) rfl 3 rfl ?_
  refine z_iconst (n := 4) (v := 4) (q := 133) (by decide +kernel) rfl (by decide) ?_
  refine z_icmp_ge (off := 32) (t := 165) (q := 136) (by decide +kernel) (by decide) rfl ?_ ?_
  · refine zsub [0, 1, 2] rfl ?_
    exact sj_X5_counted_165 g l v0 v1 s.1
  · refine z_iload_n (j := 2) (q := 137) (by decide +kernel) rfl 2 rfl ?_
    refine z_iload_n (j := 1) (q := 138) (by decide +kernel) rfl 1 rfl ?_
    refine z_bipush (n := 7) (v := 7) (q := 140) (by decide +kernel) rfl (by decide) ?_
    refine z_icmp_ne (off := 16) (t := 156) (q := 143) (by decide +kernel) (by decide) rfl ?_ ?_
    · refine zsub [0, 1, 3] rfl ?_
      exact sj_X5_counted_156 g l rec v0 v1 s.2 s.1 hrec
    · refine z_aload_n (j := 0) (q := 144) (by decide +kernel) rfl 0 rfl ?_
      refine z_getA (q := 147) zf_RX5_22 (by decide +kernel) rfl fun x1 => ?_
      refine z_iload_n (j := 3) (q := 148) (by decide +kernel) rfl 3 rfl ?_
      refine z_iald (q := 149) (Or.inl ⟨rfl, rfl⟩) (by decide +kernel) rfl fun x2 => ?_
      refine z_if_lt (off := 7) (t := 156) (q := 152) (by decide +kernel) (by decide) rfl ?_ ?_
      · refine zsub [0, 1, 3] rfl ?_
        exact sj_X5_counted_156 g l rec v0 v1 s.2 s.1 hrec
      · refine z_iconst (n := 1) (v := 1) (q := 153) (by decide +kernel) rfl (by decide) ?_
        refine z_goto (off := 4) (t := 157) (by decide +kernel) (by decide) ?_
        refine zsub [0, 1, 3] rfl ?_
        exact sj_X5_counted_157 g l rec v0 v1 s.2 s.1 1 hrec
def jn_X5_counted_129 (v0 : Nat) (v1 : Int32) (v2 : Int32) : zAH → Option (Int32 × zAH) := fun h => lp_X5_counted_131 v0 v1 (v2, 0) h
theorem sj_X5_counted_129 (g : zG) (l : Launch) (v0 : Nat) (v1 : Int32) (v2 : Int32) : zSm g l cX5_counted 4 RX5 "counted" (some .int) 2 42 zrI 129 [(0, .ref v0), (1, .int v1), (2, .int v2)] [] (jn_X5_counted_129 v0 v1 v2) := by
  unfold jn_X5_counted_129
  refine z_iconst (n := 0) (v := 0) (q := 130) (by decide +kernel) rfl (by decide) ?_
  refine z_istore_n (j := 3) (q := 131) (by decide +kernel) rfl (by decide) rfl ?_
  refine zsub [1, 2, 3, 0] rfl ?_
  exact sl_X5_counted_131 g l v0 v1 (v2, 0)
def lb_X5_counted_94 (v0 : Nat) (v1 : Int32) (rec : (Int32 × Int32) → zAH → Option (Int32 × zAH)) (s : Int32 × Int32) : zAH → Option (Int32 × zAH) := fun h => if s.2 < 6 then if v1 = 6 then (zgA 5 5 v0 h).bind fun x1 => (zaI 0 x1 s.2 h).bind fun x2 => if x2 < 0 then jn_X5_counted_120 rec v0 v1 s.2 s.1 h else jn_X5_counted_121 rec v0 v1 s.2 s.1 1 h else jn_X5_counted_120 rec v0 v1 s.2 s.1 h else jn_X5_counted_129 v0 v1 s.1 h
def lp_X5_counted_94 (v0 : Nat) (v1 : Int32) (s : Int32 × Int32) : zAH → Option (Int32 × zAH) := zlp (lb_X5_counted_94 v0 v1) 2000 s
theorem sl_X5_counted_94 (g : zG) (l : Launch) (v0 : Nat) (v1 : Int32) (s : Int32 × Int32) : zSm g l cX5_counted 4 RX5 "counted" (some .int) 2 42 zrI 94 [(0, .ref v0), (1, .int v1), (2, .int s.1), (3, .int s.2)] [] (lp_X5_counted_94 v0 v1 s) := by
  unfold lp_X5_counted_94
  refine z_loop (lvf := fun s => [(0, .ref v0), (1, .int v1), (2, .int s.1), (3, .int s.2)]) (fun rec hrec s => ?_) 2000 s
  unfold lb_X5_counted_94
  refine z_iload_n (j := 3) (q := 95) (by decide +kernel) rfl 3 rfl ?_
  refine z_bipush (n := 6) (v := 6) (q := 97) (by decide +kernel) rfl (by decide) ?_
  refine z_icmp_ge (off := 32) (t := 129) (q := 100) (by decide +kernel) (by decide) rfl ?_ ?_
  · refine zsub [0, 1, 2] rfl ?_
    exact sj_X5_counted_129 g l v0 v1 s.1
  · refine z_iload_n (j := 2) (q := 101) (by decide +kernel) rfl 2 rfl ?_
    refine z_iload_n (j := 1) (q := 102) (by decide +kernel) rfl 1 rfl ?_
    refine z_bipush (n := 6) (v := 6) (q := 104) (by decide +kernel) rfl (by decide) ?_
    refine z_icmp_ne (off := 16) (t := 120) (q := 107) (by decide +kernel) (by decide) rfl ?_ ?_
    · refine zsub [0, 1, 3] rfl ?_
      exact sj_X5_counted_120 g l rec v0 v1 s.2 s.1 hrec
    · refine z_aload_n (j := 0) (q := 108) (by decide +kernel) rfl 0 rfl ?_
      refine z_getA (q := 111) zf_RX5_13 (by decide +kernel) rfl fun x1 => ?_
      refine z_iload_n (j := 3) (q := 112) (by decide +kernel) rfl 3 rfl ?_
      refine z_iald (q := 113) (Or.inl ⟨rfl, rfl⟩) (by decide +kernel) rfl fun x2 => ?_
      refine z_if_lt (off := 7) (t := 120) (q := 116) (by decide +kernel) (by decide) rfl ?_ ?_
      · refine zsub [0, 1, 3] rfl ?_
        exact sj_X5_counted_120 g l rec v0 v1 s.2 s.1 hrec
      · refine z_iconst (n := 1) (v := 1) (q := 117) (by decide +kernel) rfl (by decide) ?_
        refine z_goto (off := 4) (t := 121) (by decide +kernel) (by decide) ?_
        refine zsub [0, 1, 3] rfl ?_
        exact sj_X5_counted_121 g l rec v0 v1 s.2 s.1 1 hrec
def jn_X5_counted_92 (v0 : Nat) (v1 : Int32) (v2 : Int32) : zAH → Option (Int32 × zAH) := fun h => lp_X5_counted_94 v0 v1 (v2, 0) h
theorem sj_X5_counted_92 (g : zG) (l : Launch) (v0 : Nat) (v1 : Int32) (v2 : Int32) : zSm g l cX5_counted 4 RX5 "counted" (some .int) 2 42 zrI 92 [(0, .ref v0), (1, .int v1), (2, .int v2)] [] (jn_X5_counted_92 v0 v1 v2) := by
  unfold jn_X5_counted_92
  refine z_iconst (n := 0) (v := 0) (q := 93) (by decide +kernel) rfl (by decide) ?_
  refine z_istore_n (j := 3) (q := 94) (by decide +kernel) rfl (by decide) rfl ?_
  refine zsub [1, 2, 3, 0] rfl ?_
  exact sl_X5_counted_94 g l v0 v1 (v2, 0)
def lb_X5_counted_59 (v0 : Nat) (v1 : Int32) (rec : (Int32 × Int32) → zAH → Option (Int32 × zAH)) (s : Int32 × Int32) : zAH → Option (Int32 × zAH) := fun h => if s.2 < 4 then if v1 = 5 then (zgA 5 27 v0 h).bind fun x1 => (zaI 2 x1 s.2 h).bind fun x2 => if x2 = 0 then jn_X5_counted_83 rec v0 v1 s.2 s.1 h else jn_X5_counted_84 rec v0 v1 s.2 s.1 1 h else jn_X5_counted_83 rec v0 v1 s.2 s.1 h else jn_X5_counted_92 v0 v1 s.1 h
def lp_X5_counted_59 (v0 : Nat) (v1 : Int32) (s : Int32 × Int32) : zAH → Option (Int32 × zAH) := zlp (lb_X5_counted_59 v0 v1) 2000 s
theorem sl_X5_counted_59 (g : zG) (l : Launch) (v0 : Nat) (v1 : Int32) (s : Int32 × Int32) : zSm g l cX5_counted 4 RX5 "counted" (some .int) 2 42 zrI 59 [(0, .ref v0), (1, .int v1), (2, .int s.1), (3, .int s.2)] [] (lp_X5_counted_59 v0 v1 s) := by
  unfold lp_X5_counted_59
  refine z_loop (lvf := fun s => [(0, .ref v0), (1, .int v1), (2, .int s.1), (3, .int s.2)]) (fun rec hrec s => ?_) 2000 s
  unfold lb_X5_counted_59
  refine z_iload_n (j := 3) (q := 60) (by decide +kernel) rfl 3 rfl ?_
  refine z_iconst (n := 4) (v := 4) (q := 61) (by decide +kernel) rfl (by decide) ?_
  refine z_icmp_ge (off := 31) (t := 92) (q := 64) (by decide +kernel) (by decide) rfl ?_ ?_
  · refine zsub [0, 1, 2] rfl ?_
    exact sj_X5_counted_92 g l v0 v1 s.1
  · refine z_iload_n (j := 2) (q := 65) (by decide +kernel) rfl 2 rfl ?_
    refine z_iload_n (j := 1) (q := 66) (by decide +kernel) rfl 1 rfl ?_
    refine z_iconst (n := 5) (v := 5) (q := 67) (by decide +kernel) rfl (by decide) ?_
    refine z_icmp_ne (off := 16) (t := 83) (q := 70) (by decide +kernel) (by decide) rfl ?_ ?_
    · refine zsub [0, 1, 3] rfl ?_
      exact sj_X5_counted_83 g l rec v0 v1 s.2 s.1 hrec
    · refine z_aload_n (j := 0) (q := 71) (by decide +kernel) rfl 0 rfl ?_
      refine z_getA (q := 74) zf_RX5_62 (by decide +kernel) rfl fun x1 => ?_
      refine z_iload_n (j := 3) (q := 75) (by decide +kernel) rfl 3 rfl ?_
      refine z_iald (q := 76) (Or.inr (Or.inr ⟨rfl, rfl⟩)) (by decide +kernel) rfl fun x2 => ?_
      refine z_if_eq (off := 7) (t := 83) (q := 79) (by decide +kernel) (by decide) rfl ?_ ?_
      · refine zsub [0, 1, 3] rfl ?_
        exact sj_X5_counted_83 g l rec v0 v1 s.2 s.1 hrec
      · refine z_iconst (n := 1) (v := 1) (q := 80) (by decide +kernel) rfl (by decide) ?_
        refine z_goto (off := 4) (t := 84) (by decide +kernel) (by decide) ?_
        refine zsub [0, 1, 3] rfl ?_
        exact sj_X5_counted_84 g l rec v0 v1 s.2 s.1 1 hrec
def jn_X5_counted_57 (v0 : Nat) (v1 : Int32) (v2 : Int32) : zAH → Option (Int32 × zAH) := fun h => lp_X5_counted_59 v0 v1 (v2, 1) h
theorem sj_X5_counted_57 (g : zG) (l : Launch) (v0 : Nat) (v1 : Int32) (v2 : Int32) : zSm g l cX5_counted 4 RX5 "counted" (some .int) 2 42 zrI 57 [(0, .ref v0), (1, .int v1), (2, .int v2)] [] (jn_X5_counted_57 v0 v1 v2) := by
  unfold jn_X5_counted_57
  refine z_iconst (n := 1) (v := 1) (q := 58) (by decide +kernel) rfl (by decide) ?_
  refine z_istore_n (j := 3) (q := 59) (by decide +kernel) rfl (by decide) rfl ?_
  refine zsub [1, 2, 3, 0] rfl ?_
  exact sl_X5_counted_59 g l v0 v1 (v2, 1)
def lb_X5_counted_9 (v0 : Nat) (v1 : Int32) (rec : (Int32 × Int32) → zAH → Option (Int32 × zAH)) (s : Int32 × Int32) : zAH → Option (Int32 × zAH) := fun h => (zgI 5 12 v0 h).bind fun x1 => if s.2 < x1 then if v1 = 3 then zbd (dn_X5_isDone v0 s.2 h) fun x2 h3 => if x2 = 0 then jn_X5_counted_31 rec v0 v1 s.2 s.1 h3 else jn_X5_counted_44 rec v0 v1 s.2 s.1 h3 else jn_X5_counted_31 rec v0 v1 s.2 s.1 h else jn_X5_counted_57 v0 v1 s.1 h
def lp_X5_counted_9 (v0 : Nat) (v1 : Int32) (s : Int32 × Int32) : zAH → Option (Int32 × zAH) := zlp (lb_X5_counted_9 v0 v1) 2000 s
theorem sl_X5_counted_9 (g : zG) (l : Launch) (v0 : Nat) (v1 : Int32) (s : Int32 × Int32) : zSm g l cX5_counted 4 RX5 "counted" (some .int) 2 42 zrI 9 [(0, .ref v0), (1, .int v1), (2, .int s.1), (3, .int s.2)] [] (lp_X5_counted_9 v0 v1 s) := by
  unfold lp_X5_counted_9
  refine z_loop (lvf := fun s => [(0, .ref v0), (1, .int v1), (2, .int s.1), (3, .int s.2)]) (fun rec hrec s => ?_) 2000 s
  unfold lb_X5_counted_9
  refine z_iload_n (j := 3) (q := 10) (by decide +kernel) rfl 3 rfl ?_
  refine z_aload_n (j := 0) (q := 11) (by decide +kernel) rfl 0 rfl ?_
  refine z_getI (q := 14) zf_RX5_147 (by decide +kernel) rfl fun x1 => ?_
  refine z_icmp_ge (off := 43) (t := 57) (q := 17) (by decide +kernel) (by decide) rfl ?_ ?_
  · refine zsub [0, 1, 2] rfl ?_
    exact sj_X5_counted_57 g l v0 v1 s.1
  · refine z_iload_n (j := 2) (q := 18) (by decide +kernel) rfl 2 rfl ?_
    refine z_iload_n (j := 1) (q := 19) (by decide +kernel) rfl 1 rfl ?_
    refine z_iconst (n := 3) (v := 3) (q := 20) (by decide +kernel) rfl (by decide) ?_
    refine z_icmp_ne (off := 11) (t := 31) (q := 23) (by decide +kernel) (by decide) rfl ?_ ?_
    · refine zsub [0, 1, 3] rfl ?_
      exact sj_X5_counted_31 g l rec v0 v1 s.2 s.1 hrec
    · refine z_aload_n (j := 0) (q := 24) (by decide +kernel) rfl 0 rfl ?_
      refine z_iload_n (j := 3) (q := 25) (by decide +kernel) rfl 3 rfl ?_
      refine z_callVI (As := [.int s.2]) (st := [.int s.1]) (q := 28) (ct_X5_isDone g l v0 s.2) zm_RX5_193 (rc_X5_isDone v0 s.2) rfl (by decide) (by decide) (Nat.le_of_ble_eq_true rfl) rfl (by decide +kernel) rfl fun x2 => ?_
      refine z_if_ne (off := 16) (t := 44) (q := 31) (by decide +kernel) (by decide) rfl ?_ ?_
      · refine zsub [0, 1, 3] rfl ?_
        exact sj_X5_counted_44 g l rec v0 v1 s.2 s.1 hrec
      · refine zsub [0, 1, 3] rfl ?_
        exact sj_X5_counted_31 g l rec v0 v1 s.2 s.1 hrec
def dn_X5_counted (v0 : Nat) (v1 : Int32) : zAH → Option (Int32 × zAH) := fun h => (zgO 5 v0 h).bind fun _ => zbd (dn_X5_look v0 0 h) fun x1 h2 => lp_X5_counted_9 v0 v1 (0, 0) h2
theorem ct_X5_counted (g : zG) (l : Launch) (v0 : Nat) (v1 : Int32) : zCt g l yX5_counted cX5_counted 4 (some .int) 2 42 zrI [.ref v0, .int v1] (dn_X5_counted v0 v1) := by
  refine zCt_of (lv := [(0, .ref v0), (1, .int v1)]) (by decide +kernel) (Nat.le_of_ble_eq_true rfl) rfl ?_
  show zSm g l cX5_counted 4 RX5 "counted" (some .int) 2 42 zrI 0 [(0, .ref v0), (1, .int v1)] [] (dn_X5_counted v0 v1)
  unfold dn_X5_counted
  refine z_rec ?_
  refine z_iconst (n := 0) (v := 0) (q := 1) (by decide +kernel) rfl (by decide) ?_
  refine z_istore_n (j := 2) (q := 2) (by decide +kernel) rfl (by decide) rfl ?_
  refine z_aload_n (j := 0) (q := 3) (by decide +kernel) rfl 1 rfl ?_
  refine z_iconst (n := 0) (v := 0) (q := 4) (by decide +kernel) rfl (by decide) ?_
  refine z_callVU (As := [.int 0]) (st := []) (q := 7) (ct_X5_look g l v0 0) zm_RX5_153 (rc_X5_look v0 0) rfl (by decide) (by decide) (Nat.le_of_ble_eq_true rfl) rfl (by decide +kernel) rfl fun x1 => ?_
  refine z_iconst (n := 0) (v := 0) (q := 8) (by decide +kernel) rfl (by decide) ?_
  refine z_istore_n (j := 3) (q := 9) (by decide +kernel) rfl (by decide) rfl ?_
  refine zsub [2, 3, 1, 0] rfl ?_
  exact sl_X5_counted_9 g l v0 v1 (0, 0)
theorem rc_X5_counted (v0 : Nat) (v1 : Int32) : ∀ h x, dn_X5_counted v0 v1 h = some x → ∃ fs, zgO 5 v0 h = some fs := fun h x hd => by
  obtain ⟨fs, e, -⟩ := Option.bind_eq_some_iff.mp hd
  exact ⟨fs, e⟩
def jn_X5_count_19 (w0 : Int32) : zAH → Option (Int32 × zAH) := fun h => some (w0, h)
theorem sj_X5_count_19 (g : zG) (l : Launch) (w0 : Int32) : zSm g l cX5_count 2 RX5 "count" (some .int) 3 65 zrI 19 [] [.int w0] (jn_X5_count_19 w0) := by
  unfold jn_X5_count_19
  exact z_iret (by decide +kernel)
def dn_X5_count (v0 : Nat) (v1 : Int32) : zAH → Option (Int32 × zAH) := fun h => (zgO 5 v0 h).bind fun _ => zbd (dn_X5_in v1 0 7 h) fun x1 h2 => if x1 = 0 then jn_X5_count_19 ((-1)) h2 else zbd (dn_X5_counted v0 v1 h2) fun x3 h4 => jn_X5_count_19 x3 h4
theorem ct_X5_count (g : zG) (l : Launch) (v0 : Nat) (v1 : Int32) : zCt g l yX5_count cX5_count 2 (some .int) 3 65 zrI [.ref v0, .int v1] (dn_X5_count v0 v1) := by
  refine zCt_of (lv := [(0, .ref v0), (1, .int v1)]) (by decide +kernel) (Nat.le_of_ble_eq_true rfl) rfl ?_
  show zSm g l cX5_count 2 RX5 "count" (some .int) 3 65 zrI 0 [(0, .ref v0), (1, .int v1)] [] (dn_X5_count v0 v1)
  unfold dn_X5_count
  refine z_rec ?_
  refine z_iload_n (j := 1) (q := 1) (by decide +kernel) rfl 1 rfl ?_
  refine z_iconst (n := 0) (v := 0) (q := 2) (by decide +kernel) rfl (by decide) ?_
  refine z_bipush (n := 7) (v := 7) (q := 4) (by decide +kernel) rfl (by decide) ?_
  refine z_callSI (As := [.int v1, .int 0, .int 7]) (st := []) (q := 7) (ct_X5_in g l v1 0 7) zm_RX5_86 rfl (by decide) (by decide) (Nat.le_of_ble_eq_true rfl) rfl (by decide +kernel) rfl fun x1 => ?_
  refine z_if_eq (off := 11) (t := 18) (q := 10) (by decide +kernel) (by decide) rfl ?_ ?_
  · refine z_iconst (n := (-1)) (v := (-1)) (q := 19) (by decide +kernel) rfl (by decide) ?_
    refine zsub [] rfl ?_
    exact sj_X5_count_19 g l ((-1))
  · refine z_aload_n (j := 0) (q := 11) (by decide +kernel) rfl 0 rfl ?_
    refine z_iload_n (j := 1) (q := 12) (by decide +kernel) rfl 1 rfl ?_
    refine z_callVI (As := [.int v1]) (st := []) (q := 15) (ct_X5_counted g l v0 v1) zm_RX5_300 (rc_X5_counted v0 v1) rfl (by decide) (by decide) (Nat.le_of_ble_eq_true rfl) rfl (by decide +kernel) rfl fun x3 => ?_
    refine z_goto (off := 4) (t := 19) (by decide +kernel) (by decide) ?_
    refine zsub [] rfl ?_
    exact sj_X5_count_19 g l x3
theorem rc_X5_count (v0 : Nat) (v1 : Int32) : ∀ h x, dn_X5_count v0 v1 h = some x → ∃ fs, zgO 5 v0 h = some fs := fun h x hd => by
  obtain ⟨fs, e, -⟩ := Option.bind_eq_some_iff.mp hd
  exact ⟨fs, e⟩
def dn_X5_mix (v0 : Nat) (v1 : Int64) : zAH → Option (Unit × zAH) := fun h => (zgO 5 v0 h).bind fun _ => (zgL 5 36 v0 h).bind fun x1 => (zpF 5 36 v0 (.long ((31 * x1) + v1)) h).bind fun h2 => some ((), h2)
theorem ct_X5_mix (g : zG) (l : Launch) (v0 : Nat) (v1 : Int64) : zCt g l yX5_mix cX5_mix 3 none 0 0 zrV [.ref v0, .long v1] (dn_X5_mix v0 v1) := by
  refine zCt_of (lv := [(0, .ref v0), (1, .long v1)]) (by decide +kernel) (Nat.le_of_ble_eq_true rfl) rfl ?_
  show zSm g l cX5_mix 3 RX5 "mix" none 0 0 zrV 0 [(0, .ref v0), (1, .long v1)] [] (dn_X5_mix v0 v1)
  unfold dn_X5_mix
  refine z_rec ?_
  refine z_aload_n (j := 0) (q := 1) (by decide +kernel) rfl 0 rfl ?_
  refine z_ldc2 (i := 303) (v := 31) (q := 4) (by decide +kernel) rfl zw1268 ?_
  refine z_aload_n (j := 0) (q := 5) (by decide +kernel) rfl 0 rfl ?_
  refine z_getL (q := 8) zf_RX5_305 (by decide +kernel) rfl fun x1 => ?_
  refine z_lmul (q := 9) (by decide +kernel) rfl ?_
  refine z_lload_n (j := 1) (q := 10) (by decide +kernel) rfl 1 rfl ?_
  refine z_ladd (q := 11) (by decide +kernel) rfl ?_
  refine z_putV (q := 14) zp_RX5_305 (fun z => by cases z) rfl rfl (by decide +kernel) rfl ?_
  exact z_vret (by decide +kernel)
theorem rc_X5_mix (v0 : Nat) (v1 : Int64) : ∀ h x, dn_X5_mix v0 v1 h = some x → ∃ fs, zgO 5 v0 h = some fs := fun h x hd => by
  obtain ⟨fs, e, -⟩ := Option.bind_eq_some_iff.mp hd
  exact ⟨fs, e⟩
def jn_X5_mixRace_133 (kc43 : Int32 → zAH → Option (Unit × zAH)) (v0 : Nat) (v1 : Int32) : zAH → Option (Unit × zAH) := fun h => zbd (dn_X5_v v0 (23 + v1) h) fun x1 h2 => zbd (dn_X5_mix v0 (Int32.toInt64 x1) h2) fun x3 h4 => kc43 (v1 + 1) h4
theorem sj_X5_mixRace_133 (g : zG) (l : Launch) (kc43 : Int32 → zAH → Option (Unit × zAH)) (v0 : Nat) (v1 : Int32) (hkc43 : ∀ s, zSm g l cX5_mixRace 3 RX5 "mixRace" none 5 109 zrV 43 [(0, .ref v0), (1, .int s)] [] (kc43 s)) : zSm g l cX5_mixRace 3 RX5 "mixRace" none 5 109 zrV 133 [(0, .ref v0), (1, .int v1)] [] (jn_X5_mixRace_133 kc43 v0 v1) := by
  unfold jn_X5_mixRace_133
  refine z_aload_n (j := 0) (q := 134) (by decide +kernel) rfl 0 rfl ?_
  refine z_aload_n (j := 0) (q := 135) (by decide +kernel) rfl 0 rfl ?_
  refine z_bipush (n := 23) (v := 23) (q := 137) (by decide +kernel) rfl (by decide) ?_
  refine z_iload_n (j := 1) (q := 138) (by decide +kernel) rfl 1 rfl ?_
  refine z_iadd (q := 139) (by decide +kernel) rfl ?_
  refine z_callVI (As := [.int (23 + v1)]) (st := [.ref v0]) (q := 142) (ct_X5_v g l v0 (23 + v1)) zm_RX5_190 (rc_X5_v v0 (23 + v1)) rfl (by decide) (by decide) (Nat.le_of_ble_eq_true rfl) rfl (by decide +kernel) rfl fun x1 => ?_
  refine z_i2l (q := 143) (by decide +kernel) rfl ?_
  refine z_callVU (As := [.long (Int32.toInt64 x1)]) (st := []) (q := 146) (ct_X5_mix g l v0 (Int32.toInt64 x1)) zm_RX5_308 (rc_X5_mix v0 (Int32.toInt64 x1)) rfl (by decide) (by decide) (Nat.le_of_ble_eq_true rfl) rfl (by decide +kernel) rfl fun x3 => ?_
  refine z_iinc (j := 1) (n := 1) (v := 1) (q := 149) (by decide +kernel) rfl 1 rfl (by decide) (by decide) rfl ?_
  refine z_goto (off := (-106)) (t := 43) (by decide +kernel) (by decide) ?_
  refine zsub [1, 0] rfl ?_
  exact hkc43 (v1 + 1)
def lb_X5_mixRace_111 (kc43 : Int32 → zAH → Option (Unit × zAH)) (v0 : Nat) (v1 : Int32) (rec : (Int32) → zAH → Option (Unit × zAH)) (s : Int32) : zAH → Option (Unit × zAH) := fun h => if s < 5 then zbd (dn_X5_raceTells v0 v1 s h) fun x1 h2 => zbd (dn_X5_mix v0 (Int32.toInt64 x1) h2) fun x3 h4 => rec (s + 1) h4 else jn_X5_mixRace_133 kc43 v0 v1 h
def lp_X5_mixRace_111 (kc43 : Int32 → zAH → Option (Unit × zAH)) (v0 : Nat) (v1 : Int32) (s : Int32) : zAH → Option (Unit × zAH) := zlp (lb_X5_mixRace_111 kc43 v0 v1) 2000 s
theorem sl_X5_mixRace_111 (g : zG) (l : Launch) (kc43 : Int32 → zAH → Option (Unit × zAH)) (v0 : Nat) (v1 : Int32) (hkc43 : ∀ s, zSm g l cX5_mixRace 3 RX5 "mixRace" none 5 109 zrV 43 [(0, .ref v0), (1, .int s)] [] (kc43 s)) (s : Int32) : zSm g l cX5_mixRace 3 RX5 "mixRace" none 5 109 zrV 111 [(0, .ref v0), (1, .int v1), (2, .int s)] [] (lp_X5_mixRace_111 kc43 v0 v1 s) := by
  unfold lp_X5_mixRace_111
  refine z_loop (lvf := fun s => [(0, .ref v0), (1, .int v1), (2, .int s)]) (fun rec hrec s => ?_) 2000 s
  unfold lb_X5_mixRace_111
  refine z_iload_n (j := 2) (q := 112) (by decide +kernel) rfl 2 rfl ?_
  refine z_iconst (n := 5) (v := 5) (q := 113) (by decide +kernel) rfl (by decide) ?_
  refine z_icmp_ge (off := 20) (t := 133) (q := 116) (by decide +kernel) (by decide) rfl ?_ ?_
  · refine zsub [0, 1] rfl ?_
    exact sj_X5_mixRace_133 g l kc43 v0 v1 hkc43
  · refine z_aload_n (j := 0) (q := 117) (by decide +kernel) rfl 0 rfl ?_
    refine z_aload_n (j := 0) (q := 118) (by decide +kernel) rfl 0 rfl ?_
    refine z_iload_n (j := 1) (q := 119) (by decide +kernel) rfl 1 rfl ?_
    refine z_iload_n (j := 2) (q := 120) (by decide +kernel) rfl 2 rfl ?_
    refine z_callVI (As := [.int v1, .int s]) (st := [.ref v0]) (q := 123) (ct_X5_raceTells g l v0 v1 s) zm_RX5_234 (rc_X5_raceTells v0 v1 s) rfl (by decide) (by decide) (Nat.le_of_ble_eq_true rfl) rfl (by decide +kernel) rfl fun x1 => ?_
    refine z_i2l (q := 124) (by decide +kernel) rfl ?_
    refine z_callVU (As := [.long (Int32.toInt64 x1)]) (st := []) (q := 127) (ct_X5_mix g l v0 (Int32.toInt64 x1)) zm_RX5_308 (rc_X5_mix v0 (Int32.toInt64 x1)) rfl (by decide) (by decide) (Nat.le_of_ble_eq_true rfl) rfl (by decide +kernel) rfl fun x3 => ?_
    refine z_iinc (j := 2) (n := 1) (v := 1) (q := 130) (by decide +kernel) rfl 2 rfl (by decide) (by decide) rfl ?_
    refine z_goto (off := (-19)) (t := 111) (by decide +kernel) (by decide) ?_
    refine zsub [1, 2, 0] rfl ?_
    exact hrec (s + 1)
def jn_X5_mixRace_109 (kc43 : Int32 → zAH → Option (Unit × zAH)) (v0 : Nat) (v1 : Int32) : zAH → Option (Unit × zAH) := fun h => lp_X5_mixRace_111 kc43 v0 v1 0 h
theorem sj_X5_mixRace_109 (g : zG) (l : Launch) (kc43 : Int32 → zAH → Option (Unit × zAH)) (v0 : Nat) (v1 : Int32) (hkc43 : ∀ s, zSm g l cX5_mixRace 3 RX5 "mixRace" none 5 109 zrV 43 [(0, .ref v0), (1, .int s)] [] (kc43 s)) : zSm g l cX5_mixRace 3 RX5 "mixRace" none 5 109 zrV 109 [(0, .ref v0), (1, .int v1)] [] (jn_X5_mixRace_109 kc43 v0 v1) := by
  unfold jn_X5_mixRace_109
  refine z_iconst (n := 0) (v := 0) (q := 110) (by decide +kernel) rfl (by decide) ?_
  refine z_istore_n (j := 2) (q := 111) (by decide +kernel) rfl (by decide) rfl ?_
  refine zsub [1, 2, 0] rfl ?_
  exact sl_X5_mixRace_111 g l kc43 v0 v1 hkc43 0
def lb_X5_mixRace_77 (kc43 : Int32 → zAH → Option (Unit × zAH)) (v0 : Nat) (v1 : Int32) (rec : (Int32) → zAH → Option (Unit × zAH)) (s : Int32) : zAH → Option (Unit × zAH) := fun h => (zgA 5 16 v0 h).bind fun x1 => (zaI 0 x1 v1 h).bind fun x2 => if s < x2 then (zgA 5 17 v0 h).bind fun x3 => (zaI 0 x3 ((8 * v1) + s) h).bind fun x4 => zbd (dn_X5_mix v0 (Int32.toInt64 x4) h) fun x5 h6 => rec (s + 1) h6 else jn_X5_mixRace_109 kc43 v0 v1 h
def lp_X5_mixRace_77 (kc43 : Int32 → zAH → Option (Unit × zAH)) (v0 : Nat) (v1 : Int32) (s : Int32) : zAH → Option (Unit × zAH) := zlp (lb_X5_mixRace_77 kc43 v0 v1) 2000 s
theorem sl_X5_mixRace_77 (g : zG) (l : Launch) (kc43 : Int32 → zAH → Option (Unit × zAH)) (v0 : Nat) (v1 : Int32) (hkc43 : ∀ s, zSm g l cX5_mixRace 3 RX5 "mixRace" none 5 109 zrV 43 [(0, .ref v0), (1, .int s)] [] (kc43 s)) (s : Int32) : zSm g l cX5_mixRace 3 RX5 "mixRace" none 5 109 zrV 77 [(0, .ref v0), (1, .int v1), (2, .int s)] [] (lp_X5_mixRace_77 kc43 v0 v1 s) := by
  unfold lp_X5_mixRace_77
  refine z_loop (lvf := fun s => [(0, .ref v0), (1, .int v1), (2, .int s)]) (fun rec hrec s => ?_) 2000 s
  unfold lb_X5_mixRace_77
  refine z_iload_n (j := 2) (q := 78) (by decide +kernel) rfl 2 rfl ?_
  refine z_aload_n (j := 0) (q := 79) (by decide +kernel) rfl 0 rfl ?_
  refine z_getA (q := 82) zf_RX5_41 (by decide +kernel) rfl fun x1 => ?_
  refine z_iload_n (j := 1) (q := 83) (by decide +kernel) rfl 1 rfl ?_
  refine z_iald (q := 84) (Or.inl ⟨rfl, rfl⟩) (by decide +kernel) rfl fun x2 => ?_
  refine z_icmp_ge (off := 25) (t := 109) (q := 87) (by decide +kernel) (by decide) rfl ?_ ?_
  · refine zsub [0, 1] rfl ?_
    exact sj_X5_mixRace_109 g l kc43 v0 v1 hkc43
  · refine z_aload_n (j := 0) (q := 88) (by decide +kernel) rfl 0 rfl ?_
    refine z_aload_n (j := 0) (q := 89) (by decide +kernel) rfl 0 rfl ?_
    refine z_getA (q := 92) zf_RX5_44 (by decide +kernel) rfl fun x3 => ?_
    refine z_bipush (n := 8) (v := 8) (q := 94) (by decide +kernel) rfl (by decide) ?_
    refine z_iload_n (j := 1) (q := 95) (by decide +kernel) rfl 1 rfl ?_
    refine z_imul (q := 96) (by decide +kernel) rfl ?_
    refine z_iload_n (j := 2) (q := 97) (by decide +kernel) rfl 2 rfl ?_
    refine z_iadd (q := 98) (by decide +kernel) rfl ?_
    refine z_iald (q := 99) (Or.inl ⟨rfl, rfl⟩) (by decide +kernel) rfl fun x4 => ?_
    refine z_i2l (q := 100) (by decide +kernel) rfl ?_
    refine z_callVU (As := [.long (Int32.toInt64 x4)]) (st := []) (q := 103) (ct_X5_mix g l v0 (Int32.toInt64 x4)) zm_RX5_308 (rc_X5_mix v0 (Int32.toInt64 x4)) rfl (by decide) (by decide) (Nat.le_of_ble_eq_true rfl) rfl (by decide +kernel) rfl fun x5 => ?_
    refine z_iinc (j := 2) (n := 1) (v := 1) (q := 106) (by decide +kernel) rfl 2 rfl (by decide) (by decide) rfl ?_
    refine z_goto (off := (-29)) (t := 77) (by decide +kernel) (by decide) ?_
    refine zsub [1, 2, 0] rfl ?_
    exact hrec (s + 1)
def jn_X5_mixRace_75 (kc43 : Int32 → zAH → Option (Unit × zAH)) (v0 : Nat) (v1 : Int32) : zAH → Option (Unit × zAH) := fun h => lp_X5_mixRace_77 kc43 v0 v1 0 h
theorem sj_X5_mixRace_75 (g : zG) (l : Launch) (kc43 : Int32 → zAH → Option (Unit × zAH)) (v0 : Nat) (v1 : Int32) (hkc43 : ∀ s, zSm g l cX5_mixRace 3 RX5 "mixRace" none 5 109 zrV 43 [(0, .ref v0), (1, .int s)] [] (kc43 s)) : zSm g l cX5_mixRace 3 RX5 "mixRace" none 5 109 zrV 75 [(0, .ref v0), (1, .int v1)] [] (jn_X5_mixRace_75 kc43 v0 v1) := by
  unfold jn_X5_mixRace_75
  refine z_iconst (n := 0) (v := 0) (q := 76) (by decide +kernel) rfl (by decide) ?_
  refine z_istore_n (j := 2) (q := 77) (by decide +kernel) rfl (by decide) rfl ?_
  refine zsub [1, 2, 0] rfl ?_
  exact sl_X5_mixRace_77 g l kc43 v0 v1 hkc43 0
def lb_X5_mixRace_53 (kc43 : Int32 → zAH → Option (Unit × zAH)) (v0 : Nat) (v1 : Int32) (rec : (Int32) → zAH → Option (Unit × zAH)) (s : Int32) : zAH → Option (Unit × zAH) := fun h => if s < 4 then zbd (dn_X5_aboutTells v0 v1 s h) fun x1 h2 => zbd (dn_X5_mix v0 (Int32.toInt64 x1) h2) fun x3 h4 => rec (s + 1) h4 else jn_X5_mixRace_75 kc43 v0 v1 h
def lp_X5_mixRace_53 (kc43 : Int32 → zAH → Option (Unit × zAH)) (v0 : Nat) (v1 : Int32) (s : Int32) : zAH → Option (Unit × zAH) := zlp (lb_X5_mixRace_53 kc43 v0 v1) 2000 s
theorem sl_X5_mixRace_53 (g : zG) (l : Launch) (kc43 : Int32 → zAH → Option (Unit × zAH)) (v0 : Nat) (v1 : Int32) (hkc43 : ∀ s, zSm g l cX5_mixRace 3 RX5 "mixRace" none 5 109 zrV 43 [(0, .ref v0), (1, .int s)] [] (kc43 s)) (s : Int32) : zSm g l cX5_mixRace 3 RX5 "mixRace" none 5 109 zrV 53 [(0, .ref v0), (1, .int v1), (2, .int s)] [] (lp_X5_mixRace_53 kc43 v0 v1 s) := by
  unfold lp_X5_mixRace_53
  refine z_loop (lvf := fun s => [(0, .ref v0), (1, .int v1), (2, .int s)]) (fun rec hrec s => ?_) 2000 s
  unfold lb_X5_mixRace_53
  refine z_iload_n (j := 2) (q := 54) (by decide +kernel) rfl 2 rfl ?_
  refine z_iconst (n := 4) (v := 4) (q := 55) (by decide +kernel) rfl (by decide) ?_
  refine z_icmp_ge (off := 20) (t := 75) (q := 58) (by decide +kernel) (by decide) rfl ?_ ?_
  · refine zsub [0, 1] rfl ?_
    exact sj_X5_mixRace_75 g l kc43 v0 v1 hkc43
  · refine z_aload_n (j := 0) (q := 59) (by decide +kernel) rfl 0 rfl ?_
    refine z_aload_n (j := 0) (q := 60) (by decide +kernel) rfl 0 rfl ?_
    refine z_iload_n (j := 1) (q := 61) (by decide +kernel) rfl 1 rfl ?_
    refine z_iload_n (j := 2) (q := 62) (by decide +kernel) rfl 2 rfl ?_
    refine z_callVI (As := [.int v1, .int s]) (st := [.ref v0]) (q := 65) (ct_X5_aboutTells g l v0 v1 s) zm_RX5_163 (rc_X5_aboutTells v0 v1 s) rfl (by decide) (by decide) (Nat.le_of_ble_eq_true rfl) rfl (by decide +kernel) rfl fun x1 => ?_
    refine z_i2l (q := 66) (by decide +kernel) rfl ?_
    refine z_callVU (As := [.long (Int32.toInt64 x1)]) (st := []) (q := 69) (ct_X5_mix g l v0 (Int32.toInt64 x1)) zm_RX5_308 (rc_X5_mix v0 (Int32.toInt64 x1)) rfl (by decide) (by decide) (Nat.le_of_ble_eq_true rfl) rfl (by decide +kernel) rfl fun x3 => ?_
    refine z_iinc (j := 2) (n := 1) (v := 1) (q := 72) (by decide +kernel) rfl 2 rfl (by decide) (by decide) rfl ?_
    refine z_goto (off := (-19)) (t := 53) (by decide +kernel) (by decide) ?_
    refine zsub [1, 2, 0] rfl ?_
    exact hrec (s + 1)
def jn_X5_mixRace_220 (kc187 : Int32 → zAH → Option (Unit × zAH)) (v0 : Nat) (v1 : Int32) (w0 : Nat) (w1 : Int64) : zAH → Option (Unit × zAH) := fun h => zbd (dn_X5_mix w0 w1 h) fun x1 h2 => kc187 (v1 + 1) h2
theorem sj_X5_mixRace_220 (g : zG) (l : Launch) (kc187 : Int32 → zAH → Option (Unit × zAH)) (v0 : Nat) (v1 : Int32) (w0 : Nat) (w1 : Int64) (hkc187 : ∀ s, zSm g l cX5_mixRace 3 RX5 "mixRace" none 5 109 zrV 187 [(0, .ref v0), (1, .int s)] [] (kc187 s)) : zSm g l cX5_mixRace 3 RX5 "mixRace" none 5 109 zrV 220 [(0, .ref v0), (1, .int v1)] [.long w1, .ref w0] (jn_X5_mixRace_220 kc187 v0 v1 w0 w1) := by
  unfold jn_X5_mixRace_220
  refine z_callVU (As := [.long w1]) (st := []) (q := 223) (ct_X5_mix g l w0 w1) zm_RX5_308 (rc_X5_mix w0 w1) rfl (by decide) (by decide) (Nat.le_of_ble_eq_true rfl) rfl (by decide +kernel) rfl fun x1 => ?_
  refine z_iinc (j := 1) (n := 1) (v := 1) (q := 226) (by decide +kernel) rfl 1 rfl (by decide) (by decide) rfl ?_
  refine z_goto (off := (-39)) (t := 187) (by decide +kernel) (by decide) ?_
  refine zsub [1, 0] rfl ?_
  exact hkc187 (v1 + 1)
def jn_X5_mixRace_229 : zAH → Option (Unit × zAH) := fun h => some ((), h)
theorem sj_X5_mixRace_229 (g : zG) (l : Launch) : zSm g l cX5_mixRace 3 RX5 "mixRace" none 5 109 zrV 229 [] [] (jn_X5_mixRace_229) := by
  unfold jn_X5_mixRace_229
  exact z_vret (by decide +kernel)
def lb_X5_mixRace_187 (v0 : Nat) (rec : (Int32) → zAH → Option (Unit × zAH)) (s : Int32) : zAH → Option (Unit × zAH) := fun h => if s < 4 then (zgA 5 27 v0 h).bind fun x1 => (zaI 2 x1 s h).bind fun x2 => if x2 = 0 then jn_X5_mixRace_220 rec v0 s v0 ((-1)) h else (zgA 5 28 v0 h).bind fun x3 => (zaI 0 x3 ((33 * s) + 0) h).bind fun x4 => jn_X5_mixRace_220 rec v0 s v0 (Int32.toInt64 x4) h else jn_X5_mixRace_229 h
def lp_X5_mixRace_187 (v0 : Nat) (s : Int32) : zAH → Option (Unit × zAH) := zlp (lb_X5_mixRace_187 v0) 2000 s
theorem sl_X5_mixRace_187 (g : zG) (l : Launch) (v0 : Nat) (s : Int32) : zSm g l cX5_mixRace 3 RX5 "mixRace" none 5 109 zrV 187 [(0, .ref v0), (1, .int s)] [] (lp_X5_mixRace_187 v0 s) := by
  unfold lp_X5_mixRace_187
  refine z_loop (lvf := fun s => [(0, .ref v0), (1, .int s)]) (fun rec hrec s => ?_) 2000 s
  unfold lb_X5_mixRace_187
  refine z_iload_n (j := 1) (q := 188) (by decide +kernel) rfl 1 rfl ?_
  refine z_iconst (n := 4) (v := 4) (q := 189) (by decide +kernel) rfl (by decide) ?_
  refine z_icmp_ge (off := 40) (t := 229) (q := 192) (by decide +kernel) (by decide) rfl ?_ ?_
  · refine zsub [] rfl ?_
    exact sj_X5_mixRace_229 g l 
  · refine z_aload_n (j := 0) (q := 193) (by decide +kernel) rfl 0 rfl ?_
    refine z_aload_n (j := 0) (q := 194) (by decide +kernel) rfl 0 rfl ?_
    refine z_getA (q := 197) zf_RX5_62 (by decide +kernel) rfl fun x1 => ?_
    refine z_iload_n (j := 1) (q := 198) (by decide +kernel) rfl 1 rfl ?_
    refine z_iald (q := 199) (Or.inr (Or.inr ⟨rfl, rfl⟩)) (by decide +kernel) rfl fun x2 => ?_
    refine z_if_eq (off := 18) (t := 217) (q := 202) (by decide +kernel) (by decide) rfl ?_ ?_
    · refine z_ldc2 (i := 312) (v := (-1)) (q := 220) (by decide +kernel) rfl zw1273 ?_
      refine zsub [0, 1] rfl ?_
      exact sj_X5_mixRace_220 g l rec v0 s v0 ((-1)) hrec
    · refine z_aload_n (j := 0) (q := 203) (by decide +kernel) rfl 0 rfl ?_
      refine z_getA (q := 206) zf_RX5_66 (by decide +kernel) rfl fun x3 => ?_
      refine z_bipush (n := 33) (v := 33) (q := 208) (by decide +kernel) rfl (by decide) ?_
      refine z_iload_n (j := 1) (q := 209) (by decide +kernel) rfl 1 rfl ?_
      refine z_imul (q := 210) (by decide +kernel) rfl ?_
      refine z_iconst (n := 0) (v := 0) (q := 211) (by decide +kernel) rfl (by decide) ?_
      refine z_iadd (q := 212) (by decide +kernel) rfl ?_
      refine z_iald (q := 213) (Or.inl ⟨rfl, rfl⟩) (by decide +kernel) rfl fun x4 => ?_
      refine z_i2l (q := 214) (by decide +kernel) rfl ?_
      refine z_goto (off := 6) (t := 220) (by decide +kernel) (by decide) ?_
      refine zsub [0, 1] rfl ?_
      exact sj_X5_mixRace_220 g l rec v0 s v0 (Int32.toInt64 x4) hrec
def jn_X5_mixRace_172 (v0 : Nat) (w0 : Nat) (w1 : Int64) : zAH → Option (Unit × zAH) := fun h => zbd (dn_X5_mix w0 w1 h) fun x1 h2 => zbd (dn_X5_v v0 2 h2) fun x3 h4 => zbd (dn_X5_mix v0 (Int32.toInt64 x3) h4) fun x5 h6 => lp_X5_mixRace_187 v0 1 h6
theorem sj_X5_mixRace_172 (g : zG) (l : Launch) (v0 : Nat) (w0 : Nat) (w1 : Int64) : zSm g l cX5_mixRace 3 RX5 "mixRace" none 5 109 zrV 172 [(0, .ref v0)] [.long w1, .ref w0] (jn_X5_mixRace_172 v0 w0 w1) := by
  unfold jn_X5_mixRace_172
  refine z_callVU (As := [.long w1]) (st := []) (q := 175) (ct_X5_mix g l w0 w1) zm_RX5_308 (rc_X5_mix w0 w1) rfl (by decide) (by decide) (Nat.le_of_ble_eq_true rfl) rfl (by decide +kernel) rfl fun x1 => ?_
  refine z_aload_n (j := 0) (q := 176) (by decide +kernel) rfl 0 rfl ?_
  refine z_aload_n (j := 0) (q := 177) (by decide +kernel) rfl 0 rfl ?_
  refine z_iconst (n := 2) (v := 2) (q := 178) (by decide +kernel) rfl (by decide) ?_
  refine z_callVI (As := [.int 2]) (st := [.ref v0]) (q := 181) (ct_X5_v g l v0 2) zm_RX5_190 (rc_X5_v v0 2) rfl (by decide) (by decide) (Nat.le_of_ble_eq_true rfl) rfl (by decide +kernel) rfl fun x3 => ?_
  refine z_i2l (q := 182) (by decide +kernel) rfl ?_
  refine z_callVU (As := [.long (Int32.toInt64 x3)]) (st := []) (q := 185) (ct_X5_mix g l v0 (Int32.toInt64 x3)) zm_RX5_308 (rc_X5_mix v0 (Int32.toInt64 x3)) rfl (by decide) (by decide) (Nat.le_of_ble_eq_true rfl) rfl (by decide +kernel) rfl fun x5 => ?_
  refine z_iconst (n := 1) (v := 1) (q := 186) (by decide +kernel) rfl (by decide) ?_
  refine z_istore_n (j := 1) (q := 187) (by decide +kernel) rfl (by decide) rfl ?_
  refine zsub [1, 0] rfl ?_
  exact sl_X5_mixRace_187 g l v0 1
def jn_X5_mixRace_152 (v0 : Nat) : zAH → Option (Unit × zAH) := fun h => (zgI 5 12 v0 h).bind fun x1 => if x1 = 0 then jn_X5_mixRace_172 v0 v0 ((-1)) h else zbd (dn_X5_v v0 1 h) fun x2 h3 => jn_X5_mixRace_172 v0 v0 (Int32.toInt64 x2) h3
theorem sj_X5_mixRace_152 (g : zG) (l : Launch) (v0 : Nat) : zSm g l cX5_mixRace 3 RX5 "mixRace" none 5 109 zrV 152 [(0, .ref v0)] [] (jn_X5_mixRace_152 v0) := by
  unfold jn_X5_mixRace_152
  refine z_aload_n (j := 0) (q := 153) (by decide +kernel) rfl 0 rfl ?_
  refine z_aload_n (j := 0) (q := 154) (by decide +kernel) rfl 0 rfl ?_
  refine z_getI (q := 157) zf_RX5_147 (by decide +kernel) rfl fun x1 => ?_
  refine z_if_ne (off := 9) (t := 166) (q := 160) (by decide +kernel) (by decide) rfl ?_ ?_
  · refine z_aload_n (j := 0) (q := 167) (by decide +kernel) rfl 0 rfl ?_
    refine z_iconst (n := 1) (v := 1) (q := 168) (by decide +kernel) rfl (by decide) ?_
    refine z_callVI (As := [.int 1]) (st := [.ref v0]) (q := 171) (ct_X5_v g l v0 1) zm_RX5_190 (rc_X5_v v0 1) rfl (by decide) (by decide) (Nat.le_of_ble_eq_true rfl) rfl (by decide +kernel) rfl fun x2 => ?_
    refine z_i2l (q := 172) (by decide +kernel) rfl ?_
    refine zsub [0] rfl ?_
    exact sj_X5_mixRace_172 g l v0 v0 (Int32.toInt64 x2)
  · refine z_ldc2 (i := 312) (v := (-1)) (q := 163) (by decide +kernel) rfl zw1273 ?_
    refine z_goto (off := 9) (t := 172) (by decide +kernel) (by decide) ?_
    refine zsub [0] rfl ?_
    exact sj_X5_mixRace_172 g l v0 v0 ((-1))
def lb_X5_mixRace_43 (v0 : Nat) (rec : (Int32) → zAH → Option (Unit × zAH)) (s : Int32) : zAH → Option (Unit × zAH) := fun h => (zgI 5 12 v0 h).bind fun x1 => if s < x1 then lp_X5_mixRace_53 rec v0 s 0 h else jn_X5_mixRace_152 v0 h
def lp_X5_mixRace_43 (v0 : Nat) (s : Int32) : zAH → Option (Unit × zAH) := zlp (lb_X5_mixRace_43 v0) 2000 s
theorem sl_X5_mixRace_43 (g : zG) (l : Launch) (v0 : Nat) (s : Int32) : zSm g l cX5_mixRace 3 RX5 "mixRace" none 5 109 zrV 43 [(0, .ref v0), (1, .int s)] [] (lp_X5_mixRace_43 v0 s) := by
  unfold lp_X5_mixRace_43
  refine z_loop (lvf := fun s => [(0, .ref v0), (1, .int s)]) (fun rec hrec s => ?_) 2000 s
  unfold lb_X5_mixRace_43
  refine z_iload_n (j := 1) (q := 44) (by decide +kernel) rfl 1 rfl ?_
  refine z_aload_n (j := 0) (q := 45) (by decide +kernel) rfl 0 rfl ?_
  refine z_getI (q := 48) zf_RX5_147 (by decide +kernel) rfl fun x1 => ?_
  refine z_icmp_ge (off := 104) (t := 152) (q := 51) (by decide +kernel) (by decide) rfl ?_ ?_
  · refine zsub [0] rfl ?_
    exact sj_X5_mixRace_152 g l v0
  · refine z_iconst (n := 0) (v := 0) (q := 52) (by decide +kernel) rfl (by decide) ?_
    refine z_istore_n (j := 2) (q := 53) (by decide +kernel) rfl (by decide) rfl ?_
    refine zsub [1, 2, 0] rfl ?_
    exact sl_X5_mixRace_53 g l rec v0 s hrec 0
def jn_X5_mixRace_41 (v0 : Nat) : zAH → Option (Unit × zAH) := fun h => lp_X5_mixRace_43 v0 0 h
theorem sj_X5_mixRace_41 (g : zG) (l : Launch) (v0 : Nat) : zSm g l cX5_mixRace 3 RX5 "mixRace" none 5 109 zrV 41 [(0, .ref v0)] [] (jn_X5_mixRace_41 v0) := by
  unfold jn_X5_mixRace_41
  refine z_iconst (n := 0) (v := 0) (q := 42) (by decide +kernel) rfl (by decide) ?_
  refine z_istore_n (j := 1) (q := 43) (by decide +kernel) rfl (by decide) rfl ?_
  refine zsub [1, 0] rfl ?_
  exact sl_X5_mixRace_43 g l v0 0
def lb_X5_mixRace_16 (v0 : Nat) (rec : (Int32) → zAH → Option (Unit × zAH)) (s : Int32) : zAH → Option (Unit × zAH) := fun h => (zgI 5 10 v0 h).bind fun x1 => if s < x1 then (zgA 5 11 v0 h).bind fun x2 => (zaI 0 x2 s h).bind fun x3 => zbd (dn_X5_mix v0 (Int32.toInt64 x3) h) fun x4 h5 => rec (s + 1) h5 else jn_X5_mixRace_41 v0 h
def lp_X5_mixRace_16 (v0 : Nat) (s : Int32) : zAH → Option (Unit × zAH) := zlp (lb_X5_mixRace_16 v0) 2000 s
theorem sl_X5_mixRace_16 (g : zG) (l : Launch) (v0 : Nat) (s : Int32) : zSm g l cX5_mixRace 3 RX5 "mixRace" none 5 109 zrV 16 [(0, .ref v0), (1, .int s)] [] (lp_X5_mixRace_16 v0 s) := by
  unfold lp_X5_mixRace_16
  refine z_loop (lvf := fun s => [(0, .ref v0), (1, .int s)]) (fun rec hrec s => ?_) 2000 s
  unfold lb_X5_mixRace_16
  refine z_iload_n (j := 1) (q := 17) (by decide +kernel) rfl 1 rfl ?_
  refine z_aload_n (j := 0) (q := 18) (by decide +kernel) rfl 0 rfl ?_
  refine z_getI (q := 21) zf_RX5_144 (by decide +kernel) rfl fun x1 => ?_
  refine z_icmp_ge (off := 20) (t := 41) (q := 24) (by decide +kernel) (by decide) rfl ?_ ?_
  · refine zsub [0] rfl ?_
    exact sj_X5_mixRace_41 g l v0
  · refine z_aload_n (j := 0) (q := 25) (by decide +kernel) rfl 0 rfl ?_
    refine z_aload_n (j := 0) (q := 26) (by decide +kernel) rfl 0 rfl ?_
    refine z_getA (q := 29) zf_RX5_29 (by decide +kernel) rfl fun x2 => ?_
    refine z_iload_n (j := 1) (q := 30) (by decide +kernel) rfl 1 rfl ?_
    refine z_iald (q := 31) (Or.inl ⟨rfl, rfl⟩) (by decide +kernel) rfl fun x3 => ?_
    refine z_i2l (q := 32) (by decide +kernel) rfl ?_
    refine z_callVU (As := [.long (Int32.toInt64 x3)]) (st := []) (q := 35) (ct_X5_mix g l v0 (Int32.toInt64 x3)) zm_RX5_308 (rc_X5_mix v0 (Int32.toInt64 x3)) rfl (by decide) (by decide) (Nat.le_of_ble_eq_true rfl) rfl (by decide +kernel) rfl fun x4 => ?_
    refine z_iinc (j := 1) (n := 1) (v := 1) (q := 38) (by decide +kernel) rfl 1 rfl (by decide) (by decide) rfl ?_
    refine z_goto (off := (-22)) (t := 16) (by decide +kernel) (by decide) ?_
    refine zsub [1, 0] rfl ?_
    exact hrec (s + 1)
def dn_X5_mixRace (v0 : Nat) : zAH → Option (Unit × zAH) := fun h => (zgO 5 v0 h).bind fun _ => zbd (dn_X5_look v0 0 h) fun x1 h2 => (zgI 5 18 v0 h2).bind fun x3 => zbd (dn_X5_mix v0 (Int32.toInt64 x3) h2) fun x4 h5 => lp_X5_mixRace_16 v0 0 h5
theorem ct_X5_mixRace (g : zG) (l : Launch) (v0 : Nat) : zCt g l yX5_mixRace cX5_mixRace 3 none 5 109 zrV [.ref v0] (dn_X5_mixRace v0) := by
  refine zCt_of (lv := [(0, .ref v0)]) (by decide +kernel) (Nat.le_of_ble_eq_true rfl) rfl ?_
  show zSm g l cX5_mixRace 3 RX5 "mixRace" none 5 109 zrV 0 [(0, .ref v0)] [] (dn_X5_mixRace v0)
  unfold dn_X5_mixRace
  refine z_rec ?_
  refine z_aload_n (j := 0) (q := 1) (by decide +kernel) rfl 0 rfl ?_
  refine z_iconst (n := 0) (v := 0) (q := 2) (by decide +kernel) rfl (by decide) ?_
  refine z_callVU (As := [.int 0]) (st := []) (q := 5) (ct_X5_look g l v0 0) zm_RX5_153 (rc_X5_look v0 0) rfl (by decide) (by decide) (Nat.le_of_ble_eq_true rfl) rfl (by decide +kernel) rfl fun x1 => ?_
  refine z_aload_n (j := 0) (q := 6) (by decide +kernel) rfl 0 rfl ?_
  refine z_aload_n (j := 0) (q := 7) (by decide +kernel) rfl 0 rfl ?_
  refine z_getI (q := 10) zf_RX5_150 (by decide +kernel) rfl fun x3 => ?_
  refine z_i2l (q := 11) (by decide +kernel) rfl ?_
  refine z_callVU (As := [.long (Int32.toInt64 x3)]) (st := []) (q := 14) (ct_X5_mix g l v0 (Int32.toInt64 x3)) zm_RX5_308 (rc_X5_mix v0 (Int32.toInt64 x3)) rfl (by decide) (by decide) (Nat.le_of_ble_eq_true rfl) rfl (by decide +kernel) rfl fun x4 => ?_
  refine z_iconst (n := 0) (v := 0) (q := 15) (by decide +kernel) rfl (by decide) ?_
  refine z_istore_n (j := 1) (q := 16) (by decide +kernel) rfl (by decide) rfl ?_
  refine zsub [1, 0] rfl ?_
  exact sl_X5_mixRace_16 g l v0 0
theorem rc_X5_mixRace (v0 : Nat) : ∀ h x, dn_X5_mixRace v0 h = some x → ∃ fs, zgO 5 v0 h = some fs := fun h x hd => by
  obtain ⟨fs, e, -⟩ := Option.bind_eq_some_iff.mp hd
  exact ⟨fs, e⟩
def jn_X5_digest_83 (kc37 : Int32 → zAH → Option (Int64 × zAH)) (v0 : Nat) (v1 : Int32) : zAH → Option (Int64 × zAH) := fun h => kc37 (v1 + 1) h
theorem sj_X5_digest_83 (g : zG) (l : Launch) (kc37 : Int32 → zAH → Option (Int64 × zAH)) (v0 : Nat) (v1 : Int32) (hkc37 : ∀ s, zSm g l cX5_digest 3 RX5 "digest" (some .long) 6 131 zrL 37 [(0, .ref v0), (1, .int s)] [] (kc37 s)) : zSm g l cX5_digest 3 RX5 "digest" (some .long) 6 131 zrL 83 [(0, .ref v0), (1, .int v1)] [] (jn_X5_digest_83 kc37 v0 v1) := by
  unfold jn_X5_digest_83
  refine z_iinc (j := 1) (n := 1) (v := 1) (q := 86) (by decide +kernel) rfl 1 rfl (by decide) (by decide) rfl ?_
  refine z_goto (off := (-49)) (t := 37) (by decide +kernel) (by decide) ?_
  refine zsub [1, 0] rfl ?_
  exact hkc37 (v1 + 1)
def lb_X5_digest_56 (kc37 : Int32 → zAH → Option (Int64 × zAH)) (v0 : Nat) (v1 : Int32) (rec : (Int32) → zAH → Option (Int64 × zAH)) (s : Int32) : zAH → Option (Int64 × zAH) := fun h => (zgA 5 5 v0 h).bind fun x1 => (zaI 0 x1 v1 h).bind fun x2 => if s < x2 then zbd (dn_X5_rowAt v0 v1 s h) fun x3 h4 => zbd (dn_X5_mix v0 (Int32.toInt64 x3) h4) fun x5 h6 => rec (s + 1) h6 else jn_X5_digest_83 kc37 v0 v1 h
def lp_X5_digest_56 (kc37 : Int32 → zAH → Option (Int64 × zAH)) (v0 : Nat) (v1 : Int32) (s : Int32) : zAH → Option (Int64 × zAH) := zlp (lb_X5_digest_56 kc37 v0 v1) 2000 s
theorem sl_X5_digest_56 (g : zG) (l : Launch) (kc37 : Int32 → zAH → Option (Int64 × zAH)) (v0 : Nat) (v1 : Int32) (hkc37 : ∀ s, zSm g l cX5_digest 3 RX5 "digest" (some .long) 6 131 zrL 37 [(0, .ref v0), (1, .int s)] [] (kc37 s)) (s : Int32) : zSm g l cX5_digest 3 RX5 "digest" (some .long) 6 131 zrL 56 [(0, .ref v0), (1, .int v1), (2, .int s)] [] (lp_X5_digest_56 kc37 v0 v1 s) := by
  unfold lp_X5_digest_56
  refine z_loop (lvf := fun s => [(0, .ref v0), (1, .int v1), (2, .int s)]) (fun rec hrec s => ?_) 2000 s
  unfold lb_X5_digest_56
  refine z_iload_n (j := 2) (q := 57) (by decide +kernel) rfl 2 rfl ?_
  refine z_aload_n (j := 0) (q := 58) (by decide +kernel) rfl 0 rfl ?_
  refine z_getA (q := 61) zf_RX5_13 (by decide +kernel) rfl fun x1 => ?_
  refine z_iload_n (j := 1) (q := 62) (by decide +kernel) rfl 1 rfl ?_
  refine z_iald (q := 63) (Or.inl ⟨rfl, rfl⟩) (by decide +kernel) rfl fun x2 => ?_
  refine z_icmp_ge (off := 20) (t := 83) (q := 66) (by decide +kernel) (by decide) rfl ?_ ?_
  · refine zsub [0, 1] rfl ?_
    exact sj_X5_digest_83 g l kc37 v0 v1 hkc37
  · refine z_aload_n (j := 0) (q := 67) (by decide +kernel) rfl 0 rfl ?_
    refine z_aload_n (j := 0) (q := 68) (by decide +kernel) rfl 0 rfl ?_
    refine z_iload_n (j := 1) (q := 69) (by decide +kernel) rfl 1 rfl ?_
    refine z_iload_n (j := 2) (q := 70) (by decide +kernel) rfl 2 rfl ?_
    refine z_callVI (As := [.int v1, .int s]) (st := [.ref v0]) (q := 73) (ct_X5_rowAt g l v0 v1 s) zm_RX5_104 (rc_X5_rowAt v0 v1 s) rfl (by decide) (by decide) (Nat.le_of_ble_eq_true rfl) rfl (by decide +kernel) rfl fun x3 => ?_
    refine z_i2l (q := 74) (by decide +kernel) rfl ?_
    refine z_callVU (As := [.long (Int32.toInt64 x3)]) (st := []) (q := 77) (ct_X5_mix g l v0 (Int32.toInt64 x3)) zm_RX5_308 (rc_X5_mix v0 (Int32.toInt64 x3)) rfl (by decide) (by decide) (Nat.le_of_ble_eq_true rfl) rfl (by decide +kernel) rfl fun x5 => ?_
    refine z_iinc (j := 2) (n := 1) (v := 1) (q := 80) (by decide +kernel) rfl 2 rfl (by decide) (by decide) rfl ?_
    refine z_goto (off := (-24)) (t := 56) (by decide +kernel) (by decide) ?_
    refine zsub [1, 2, 0] rfl ?_
    exact hrec (s + 1)
def jn_X5_digest_136 (kc91 : Int32 → zAH → Option (Int64 × zAH)) (v0 : Nat) (v1 : Int32) : zAH → Option (Int64 × zAH) := fun h => kc91 (v1 + 1) h
theorem sj_X5_digest_136 (g : zG) (l : Launch) (kc91 : Int32 → zAH → Option (Int64 × zAH)) (v0 : Nat) (v1 : Int32) (hkc91 : ∀ s, zSm g l cX5_digest 3 RX5 "digest" (some .long) 6 131 zrL 91 [(0, .ref v0), (1, .int s)] [] (kc91 s)) : zSm g l cX5_digest 3 RX5 "digest" (some .long) 6 131 zrL 136 [(0, .ref v0), (1, .int v1)] [] (jn_X5_digest_136 kc91 v0 v1) := by
  unfold jn_X5_digest_136
  refine z_iinc (j := 1) (n := 1) (v := 1) (q := 139) (by decide +kernel) rfl 1 rfl (by decide) (by decide) rfl ?_
  refine z_goto (off := (-48)) (t := 91) (by decide +kernel) (by decide) ?_
  refine zsub [1, 0] rfl ?_
  exact hkc91 (v1 + 1)
def lb_X5_digest_109 (kc91 : Int32 → zAH → Option (Int64 × zAH)) (v0 : Nat) (v1 : Int32) (rec : (Int32) → zAH → Option (Int64 × zAH)) (s : Int32) : zAH → Option (Int64 × zAH) := fun h => (zgA 5 8 v0 h).bind fun x1 => (zaI 0 x1 v1 h).bind fun x2 => if s < x2 then zbd (dn_X5_byteAt v0 v1 s h) fun x3 h4 => zbd (dn_X5_mix v0 (Int32.toInt64 x3) h4) fun x5 h6 => rec (s + 1) h6 else jn_X5_digest_136 kc91 v0 v1 h
def lp_X5_digest_109 (kc91 : Int32 → zAH → Option (Int64 × zAH)) (v0 : Nat) (v1 : Int32) (s : Int32) : zAH → Option (Int64 × zAH) := zlp (lb_X5_digest_109 kc91 v0 v1) 2000 s
theorem sl_X5_digest_109 (g : zG) (l : Launch) (kc91 : Int32 → zAH → Option (Int64 × zAH)) (v0 : Nat) (v1 : Int32) (hkc91 : ∀ s, zSm g l cX5_digest 3 RX5 "digest" (some .long) 6 131 zrL 91 [(0, .ref v0), (1, .int s)] [] (kc91 s)) (s : Int32) : zSm g l cX5_digest 3 RX5 "digest" (some .long) 6 131 zrL 109 [(0, .ref v0), (1, .int v1), (2, .int s)] [] (lp_X5_digest_109 kc91 v0 v1 s) := by
  unfold lp_X5_digest_109
  refine z_loop (lvf := fun s => [(0, .ref v0), (1, .int v1), (2, .int s)]) (fun rec hrec s => ?_) 2000 s
  unfold lb_X5_digest_109
  refine z_iload_n (j := 2) (q := 110) (by decide +kernel) rfl 2 rfl ?_
  refine z_aload_n (j := 0) (q := 111) (by decide +kernel) rfl 0 rfl ?_
  refine z_getA (q := 114) zf_RX5_22 (by decide +kernel) rfl fun x1 => ?_
  refine z_iload_n (j := 1) (q := 115) (by decide +kernel) rfl 1 rfl ?_
  refine z_iald (q := 116) (Or.inl ⟨rfl, rfl⟩) (by decide +kernel) rfl fun x2 => ?_
  refine z_icmp_ge (off := 20) (t := 136) (q := 119) (by decide +kernel) (by decide) rfl ?_ ?_
  · refine zsub [0, 1] rfl ?_
    exact sj_X5_digest_136 g l kc91 v0 v1 hkc91
  · refine z_aload_n (j := 0) (q := 120) (by decide +kernel) rfl 0 rfl ?_
    refine z_aload_n (j := 0) (q := 121) (by decide +kernel) rfl 0 rfl ?_
    refine z_iload_n (j := 1) (q := 122) (by decide +kernel) rfl 1 rfl ?_
    refine z_iload_n (j := 2) (q := 123) (by decide +kernel) rfl 2 rfl ?_
    refine z_callVI (As := [.int v1, .int s]) (st := [.ref v0]) (q := 126) (ct_X5_byteAt g l v0 v1 s) zm_RX5_117 (rc_X5_byteAt v0 v1 s) rfl (by decide) (by decide) (Nat.le_of_ble_eq_true rfl) rfl (by decide +kernel) rfl fun x3 => ?_
    refine z_i2l (q := 127) (by decide +kernel) rfl ?_
    refine z_callVU (As := [.long (Int32.toInt64 x3)]) (st := []) (q := 130) (ct_X5_mix g l v0 (Int32.toInt64 x3)) zm_RX5_308 (rc_X5_mix v0 (Int32.toInt64 x3)) rfl (by decide) (by decide) (Nat.le_of_ble_eq_true rfl) rfl (by decide +kernel) rfl fun x5 => ?_
    refine z_iinc (j := 2) (n := 1) (v := 1) (q := 133) (by decide +kernel) rfl 2 rfl (by decide) (by decide) rfl ?_
    refine z_goto (off := (-24)) (t := 109) (by decide +kernel) (by decide) ?_
    refine zsub [1, 2, 0] rfl ?_
    exact hrec (s + 1)
def jn_X5_digest_142 (v0 : Nat) : zAH → Option (Int64 × zAH) := fun h => (zgL 5 36 v0 h).bind fun x1 => some (x1, h)
theorem sj_X5_digest_142 (g : zG) (l : Launch) (v0 : Nat) : zSm g l cX5_digest 3 RX5 "digest" (some .long) 6 131 zrL 142 [(0, .ref v0)] [] (jn_X5_digest_142 v0) := by
  unfold jn_X5_digest_142
  refine z_aload_n (j := 0) (q := 143) (by decide +kernel) rfl 0 rfl ?_
  refine z_getL (q := 146) zf_RX5_305 (by decide +kernel) rfl fun x1 => ?_
  exact z_lret (by decide +kernel)
def lb_X5_digest_91 (v0 : Nat) (rec : (Int32) → zAH → Option (Int64 × zAH)) (s : Int32) : zAH → Option (Int64 × zAH) := fun h => if s < 4 then (zgA 5 8 v0 h).bind fun x1 => (zaI 0 x1 s h).bind fun x2 => zbd (dn_X5_mix v0 (Int32.toInt64 x2) h) fun x3 h4 => lp_X5_digest_109 rec v0 s 0 h4 else jn_X5_digest_142 v0 h
def lp_X5_digest_91 (v0 : Nat) (s : Int32) : zAH → Option (Int64 × zAH) := zlp (lb_X5_digest_91 v0) 2000 s
theorem sl_X5_digest_91 (g : zG) (l : Launch) (v0 : Nat) (s : Int32) : zSm g l cX5_digest 3 RX5 "digest" (some .long) 6 131 zrL 91 [(0, .ref v0), (1, .int s)] [] (lp_X5_digest_91 v0 s) := by
  unfold lp_X5_digest_91
  refine z_loop (lvf := fun s => [(0, .ref v0), (1, .int s)]) (fun rec hrec s => ?_) 2000 s
  unfold lb_X5_digest_91
  refine z_iload_n (j := 1) (q := 92) (by decide +kernel) rfl 1 rfl ?_
  refine z_iconst (n := 4) (v := 4) (q := 93) (by decide +kernel) rfl (by decide) ?_
  refine z_icmp_ge (off := 49) (t := 142) (q := 96) (by decide +kernel) (by decide) rfl ?_ ?_
  · refine zsub [0] rfl ?_
    exact sj_X5_digest_142 g l v0
  · refine z_aload_n (j := 0) (q := 97) (by decide +kernel) rfl 0 rfl ?_
    refine z_aload_n (j := 0) (q := 98) (by decide +kernel) rfl 0 rfl ?_
    refine z_getA (q := 101) zf_RX5_22 (by decide +kernel) rfl fun x1 => ?_
    refine z_iload_n (j := 1) (q := 102) (by decide +kernel) rfl 1 rfl ?_
    refine z_iald (q := 103) (Or.inl ⟨rfl, rfl⟩) (by decide +kernel) rfl fun x2 => ?_
    refine z_i2l (q := 104) (by decide +kernel) rfl ?_
    refine z_callVU (As := [.long (Int32.toInt64 x2)]) (st := []) (q := 107) (ct_X5_mix g l v0 (Int32.toInt64 x2)) zm_RX5_308 (rc_X5_mix v0 (Int32.toInt64 x2)) rfl (by decide) (by decide) (Nat.le_of_ble_eq_true rfl) rfl (by decide +kernel) rfl fun x3 => ?_
    refine z_iconst (n := 0) (v := 0) (q := 108) (by decide +kernel) rfl (by decide) ?_
    refine z_istore_n (j := 2) (q := 109) (by decide +kernel) rfl (by decide) rfl ?_
    refine zsub [1, 2, 0] rfl ?_
    exact sl_X5_digest_109 g l rec v0 s hrec 0
def jn_X5_digest_89 (v0 : Nat) : zAH → Option (Int64 × zAH) := fun h => lp_X5_digest_91 v0 0 h
theorem sj_X5_digest_89 (g : zG) (l : Launch) (v0 : Nat) : zSm g l cX5_digest 3 RX5 "digest" (some .long) 6 131 zrL 89 [(0, .ref v0)] [] (jn_X5_digest_89 v0) := by
  unfold jn_X5_digest_89
  refine z_iconst (n := 0) (v := 0) (q := 90) (by decide +kernel) rfl (by decide) ?_
  refine z_istore_n (j := 1) (q := 91) (by decide +kernel) rfl (by decide) rfl ?_
  refine zsub [1, 0] rfl ?_
  exact sl_X5_digest_91 g l v0 0
def lb_X5_digest_37 (v0 : Nat) (rec : (Int32) → zAH → Option (Int64 × zAH)) (s : Int32) : zAH → Option (Int64 × zAH) := fun h => if s < 6 then (zgA 5 5 v0 h).bind fun x1 => (zaI 0 x1 s h).bind fun x2 => zbd (dn_X5_mix v0 (Int32.toInt64 x2) h) fun x3 h4 => lp_X5_digest_56 rec v0 s 0 h4 else jn_X5_digest_89 v0 h
def lp_X5_digest_37 (v0 : Nat) (s : Int32) : zAH → Option (Int64 × zAH) := zlp (lb_X5_digest_37 v0) 2000 s
theorem sl_X5_digest_37 (g : zG) (l : Launch) (v0 : Nat) (s : Int32) : zSm g l cX5_digest 3 RX5 "digest" (some .long) 6 131 zrL 37 [(0, .ref v0), (1, .int s)] [] (lp_X5_digest_37 v0 s) := by
  unfold lp_X5_digest_37
  refine z_loop (lvf := fun s => [(0, .ref v0), (1, .int s)]) (fun rec hrec s => ?_) 2000 s
  unfold lb_X5_digest_37
  refine z_iload_n (j := 1) (q := 38) (by decide +kernel) rfl 1 rfl ?_
  refine z_bipush (n := 6) (v := 6) (q := 40) (by decide +kernel) rfl (by decide) ?_
  refine z_icmp_ge (off := 49) (t := 89) (q := 43) (by decide +kernel) (by decide) rfl ?_ ?_
  · refine zsub [0] rfl ?_
    exact sj_X5_digest_89 g l v0
  · refine z_aload_n (j := 0) (q := 44) (by decide +kernel) rfl 0 rfl ?_
    refine z_aload_n (j := 0) (q := 45) (by decide +kernel) rfl 0 rfl ?_
    refine z_getA (q := 48) zf_RX5_13 (by decide +kernel) rfl fun x1 => ?_
    refine z_iload_n (j := 1) (q := 49) (by decide +kernel) rfl 1 rfl ?_
    refine z_iald (q := 50) (Or.inl ⟨rfl, rfl⟩) (by decide +kernel) rfl fun x2 => ?_
    refine z_i2l (q := 51) (by decide +kernel) rfl ?_
    refine z_callVU (As := [.long (Int32.toInt64 x2)]) (st := []) (q := 54) (ct_X5_mix g l v0 (Int32.toInt64 x2)) zm_RX5_308 (rc_X5_mix v0 (Int32.toInt64 x2)) rfl (by decide) (by decide) (Nat.le_of_ble_eq_true rfl) rfl (by decide +kernel) rfl fun x3 => ?_
    refine z_iconst (n := 0) (v := 0) (q := 55) (by decide +kernel) rfl (by decide) ?_
    refine z_istore_n (j := 2) (q := 56) (by decide +kernel) rfl (by decide) rfl ?_
    refine zsub [1, 2, 0] rfl ?_
    exact sl_X5_digest_56 g l rec v0 s hrec 0
def jn_X5_digest_31 (v0 : Nat) : zAH → Option (Int64 × zAH) := fun h => zbd (dn_X5_mixRace v0 h) fun x1 h2 => lp_X5_digest_37 v0 0 h2
theorem sj_X5_digest_31 (g : zG) (l : Launch) (v0 : Nat) : zSm g l cX5_digest 3 RX5 "digest" (some .long) 6 131 zrL 31 [(0, .ref v0)] [] (jn_X5_digest_31 v0) := by
  unfold jn_X5_digest_31
  refine z_aload_n (j := 0) (q := 32) (by decide +kernel) rfl 0 rfl ?_
  refine z_callVU (As := []) (st := []) (q := 35) (ct_X5_mixRace g l v0) zm_RX5_316 (rc_X5_mixRace v0) rfl (by decide) (by decide) (Nat.le_of_ble_eq_true rfl) rfl (by decide +kernel) rfl fun x1 => ?_
  refine z_iconst (n := 0) (v := 0) (q := 36) (by decide +kernel) rfl (by decide) ?_
  refine z_istore_n (j := 1) (q := 37) (by decide +kernel) rfl (by decide) rfl ?_
  refine zsub [1, 0] rfl ?_
  exact sl_X5_digest_37 g l v0 0
def lb_X5_digest_9 (v0 : Nat) (rec : (Int32) → zAH → Option (Int64 × zAH)) (s : Int32) : zAH → Option (Int64 × zAH) := fun h => if s < 8 then zbd (dn_X5_counted v0 s h) fun x1 h2 => zbd (dn_X5_mix v0 (Int32.toInt64 x1) h2) fun x3 h4 => rec (s + 1) h4 else jn_X5_digest_31 v0 h
def lp_X5_digest_9 (v0 : Nat) (s : Int32) : zAH → Option (Int64 × zAH) := zlp (lb_X5_digest_9 v0) 2000 s
theorem sl_X5_digest_9 (g : zG) (l : Launch) (v0 : Nat) (s : Int32) : zSm g l cX5_digest 3 RX5 "digest" (some .long) 6 131 zrL 9 [(0, .ref v0), (1, .int s)] [] (lp_X5_digest_9 v0 s) := by
  unfold lp_X5_digest_9
  refine z_loop (lvf := fun s => [(0, .ref v0), (1, .int s)]) (fun rec hrec s => ?_) 2000 s
  unfold lb_X5_digest_9
  refine z_iload_n (j := 1) (q := 10) (by decide +kernel) rfl 1 rfl ?_
  refine z_bipush (n := 8) (v := 8) (q := 12) (by decide +kernel) rfl (by decide) ?_
  refine z_icmp_ge (off := 19) (t := 31) (q := 15) (by decide +kernel) (by decide) rfl ?_ ?_
  · refine zsub [0] rfl ?_
    exact sj_X5_digest_31 g l v0
  · refine z_aload_n (j := 0) (q := 16) (by decide +kernel) rfl 0 rfl ?_
    refine z_aload_n (j := 0) (q := 17) (by decide +kernel) rfl 0 rfl ?_
    refine z_iload_n (j := 1) (q := 18) (by decide +kernel) rfl 1 rfl ?_
    refine z_callVI (As := [.int s]) (st := [.ref v0]) (q := 21) (ct_X5_counted g l v0 s) zm_RX5_300 (rc_X5_counted v0 s) rfl (by decide) (by decide) (Nat.le_of_ble_eq_true rfl) rfl (by decide +kernel) rfl fun x1 => ?_
    refine z_i2l (q := 22) (by decide +kernel) rfl ?_
    refine z_callVU (As := [.long (Int32.toInt64 x1)]) (st := []) (q := 25) (ct_X5_mix g l v0 (Int32.toInt64 x1)) zm_RX5_308 (rc_X5_mix v0 (Int32.toInt64 x1)) rfl (by decide) (by decide) (Nat.le_of_ble_eq_true rfl) rfl (by decide +kernel) rfl fun x3 => ?_
    refine z_iinc (j := 1) (n := 1) (v := 1) (q := 28) (by decide +kernel) rfl 1 rfl (by decide) (by decide) rfl ?_
    refine z_goto (off := (-19)) (t := 9) (by decide +kernel) (by decide) ?_
    refine zsub [1, 0] rfl ?_
    exact hrec (s + 1)
def dn_X5_digest (v0 : Nat) : zAH → Option (Int64 × zAH) := fun h => (zgO 5 v0 h).bind fun _ => (zpF 5 36 v0 (.long 17) h).bind fun h1 => lp_X5_digest_9 v0 0 h1
theorem ct_X5_digest (g : zG) (l : Launch) (v0 : Nat) : zCt g l yX5_digest cX5_digest 3 (some .long) 6 131 zrL [.ref v0] (dn_X5_digest v0) := by
  refine zCt_of (lv := [(0, .ref v0)]) (by decide +kernel) (Nat.le_of_ble_eq_true rfl) rfl ?_
  show zSm g l cX5_digest 3 RX5 "digest" (some .long) 6 131 zrL 0 [(0, .ref v0)] [] (dn_X5_digest v0)
  unfold dn_X5_digest
  refine z_rec ?_
  refine z_aload_n (j := 0) (q := 1) (by decide +kernel) rfl 0 rfl ?_
  refine z_ldc2 (i := 314) (v := 17) (q := 4) (by decide +kernel) rfl zw1263 ?_
  refine z_putV (q := 7) zp_RX5_305 (fun z => by cases z) rfl rfl (by decide +kernel) rfl ?_
  refine z_iconst (n := 0) (v := 0) (q := 8) (by decide +kernel) rfl (by decide) ?_
  refine z_istore_n (j := 1) (q := 9) (by decide +kernel) rfl (by decide) rfl ?_
  refine zsub [1, 0] rfl ?_
  exact sl_X5_digest_9 g l v0 0
theorem rc_X5_digest (v0 : Nat) : ∀ h x, dn_X5_digest v0 h = some x → ∃ fs, zgO 5 v0 h = some fs := fun h x hd => by
  obtain ⟨fs, e, -⟩ := Option.bind_eq_some_iff.mp hd
  exact ⟨fs, e⟩
