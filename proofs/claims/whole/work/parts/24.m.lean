def jn_X4_laws_41 (kc14 : (Int32 × Int32) → zAH → Option (Int32 × zAH)) (v0 : Nat) (v1 : Int32) (v2 : Int32) (v3 : Int32) : zAH → Option (Int32 × zAH) := fun h => kc14 (v2, v3 + 1) h
theorem sj_X4_laws_41 (g : zG) (l : Launch) (kc14 : (Int32 × Int32) → zAH → Option (Int32 × zAH)) (v0 : Nat) (v1 : Int32) (v2 : Int32) (v3 : Int32) (hkc14 : ∀ s, zSm g l cX4_laws 4 RX4 "laws" (some .int) 6 149 zrI 14 [(0, .ref v0), (1, .int v1), (2, .int s.1), (3, .int s.2)] [] (kc14 s)) : zSm g l cX4_laws 4 RX4 "laws" (some .int) 6 149 zrI 41 [(0, .ref v0), (1, .int v1), (2, .int v2), (3, .int v3)] [] (jn_X4_laws_41 kc14 v0 v1 v2 v3) := by
  unfold jn_X4_laws_41
  refine z_iinc (j := 3) (n := 1) (v := 1) (q := 44) (by decide +kernel) rfl 3 rfl (by decide) (by decide) rfl ?_
  refine z_goto (off := (-30)) (t := 14) (by decide +kernel) (by decide) ?_
  refine zsub [1, 2, 3, 0] rfl ?_
  exact hkc14 (v2, v3 + 1)
def jn_X4_laws_47 (v2 : Int32) : zAH → Option (Int32 × zAH) := fun h => some (v2, h)
theorem sj_X4_laws_47 (g : zG) (l : Launch) (v2 : Int32) : zSm g l cX4_laws 4 RX4 "laws" (some .int) 6 149 zrI 47 [(2, .int v2)] [] (jn_X4_laws_47 v2) := by
  unfold jn_X4_laws_47
  refine z_iload_n (j := 2) (q := 48) (by decide +kernel) rfl 0 rfl ?_
  exact z_iret (by decide +kernel)
def lb_X4_laws_14 (v0 : Nat) (v1 : Int32) (rec : (Int32 × Int32) → zAH → Option (Int32 × zAH)) (s : Int32 × Int32) : zAH → Option (Int32 × zAH) := fun h => if s.2 < 3 then zbd (dn_X4_finishTrial v0 s.2 h) fun x1 h2 => (zgA 4 5 v0 h2).bind fun x3 => (zgI 1 3 x3 h2).bind fun x4 => if x4 = v1 then jn_X4_laws_41 rec v0 v1 (s.1 ||| (1 <<< (s.2 &&& 31))) s.2 h2 else jn_X4_laws_41 rec v0 v1 s.1 s.2 h2 else jn_X4_laws_47 s.1 h
def lp_X4_laws_14 (v0 : Nat) (v1 : Int32) (s : Int32 × Int32) : zAH → Option (Int32 × zAH) := zlp (lb_X4_laws_14 v0 v1) 2000 s
theorem sl_X4_laws_14 (g : zG) (l : Launch) (v0 : Nat) (v1 : Int32) (s : Int32 × Int32) : zSm g l cX4_laws 4 RX4 "laws" (some .int) 6 149 zrI 14 [(0, .ref v0), (1, .int v1), (2, .int s.1), (3, .int s.2)] [] (lp_X4_laws_14 v0 v1 s) := by
  unfold lp_X4_laws_14
  refine z_loop (lvf := fun s => [(0, .ref v0), (1, .int v1), (2, .int s.1), (3, .int s.2)]) (fun rec hrec s => ?_) 2000 s
  unfold lb_X4_laws_14
  refine z_iload_n (j := 3) (q := 15) (by decide +kernel) rfl 3 rfl ?_
  refine z_iconst (n := 3) (v := 3) (q := 16) (by decide +kernel) rfl (by decide) ?_
  refine z_icmp_ge (off := 31) (t := 47) (q := 19) (by decide +kernel) (by decide) rfl ?_ ?_
  · refine zsub [2] rfl ?_
    exact sj_X4_laws_47 g l s.1
  · refine z_aload_n (j := 0) (q := 20) (by decide +kernel) rfl 0 rfl ?_
    refine z_iload_n (j := 3) (q := 21) (by decide +kernel) rfl 3 rfl ?_
    refine z_callVU (As := [.int s.2]) (st := []) (q := 24) (ct_X4_finishTrial g l v0 s.2) zm_RX4_221 (rc_X4_finishTrial v0 s.2) rfl (by decide) (by decide) (Nat.le_of_ble_eq_true rfl) rfl (by decide +kernel) rfl fun x1 => ?_
    refine z_aload_n (j := 0) (q := 25) (by decide +kernel) rfl 0 rfl ?_
    refine z_getA (q := 28) zf_RX4_35 (by decide +kernel) rfl fun x3 => ?_
    refine z_getI (q := 31) zf_RX4_208 (by decide +kernel) rfl fun x4 => ?_
    refine z_iload_n (j := 1) (q := 32) (by decide +kernel) rfl 1 rfl ?_
    refine z_icmp_ne (off := 9) (t := 41) (q := 35) (by decide +kernel) (by decide) rfl ?_ ?_
    · refine zsub [0, 1, 2, 3] rfl ?_
      exact sj_X4_laws_41 g l rec v0 v1 s.1 s.2 hrec
    · refine z_iload_n (j := 2) (q := 36) (by decide +kernel) rfl 2 rfl ?_
      refine z_iconst (n := 1) (v := 1) (q := 37) (by decide +kernel) rfl (by decide) ?_
      refine z_iload_n (j := 3) (q := 38) (by decide +kernel) rfl 3 rfl ?_
      refine z_ishl (q := 39) (by decide +kernel) rfl ?_
      refine z_ior (q := 40) (by decide +kernel) rfl ?_
      refine z_istore_n (j := 2) (q := 41) (by decide +kernel) rfl (by decide) rfl ?_
      refine zsub [1, 2, 0, 3] rfl ?_
      exact sj_X4_laws_41 g l rec v0 v1 (s.1 ||| (1 <<< (s.2 &&& 31))) s.2 hrec
def dn_X4_laws (v0 : Nat) (v1 : Int32) : zAH → Option (Int32 × zAH) := fun h => (zgO 4 v0 h).bind fun _ => zbd (dn_X4_isRunner v0 v1 h) fun x1 h2 => if x1 = 0 then some ((-1), h2) else lp_X4_laws_14 v0 v1 (0, 0) h2
theorem ct_X4_laws (g : zG) (l : Launch) (v0 : Nat) (v1 : Int32) : zCt g l yX4_laws cX4_laws 4 (some .int) 6 149 zrI [.ref v0, .int v1] (dn_X4_laws v0 v1) := by
  refine zCt_of (lv := [(0, .ref v0), (1, .int v1)]) (by decide +kernel) (Nat.le_of_ble_eq_true rfl) rfl ?_
  show zSm g l cX4_laws 4 RX4 "laws" (some .int) 6 149 zrI 0 [(0, .ref v0), (1, .int v1)] [] (dn_X4_laws v0 v1)
  unfold dn_X4_laws
  refine z_rec ?_
  refine z_aload_n (j := 0) (q := 1) (by decide +kernel) rfl 0 rfl ?_
  refine z_iload_n (j := 1) (q := 2) (by decide +kernel) rfl 1 rfl ?_
  refine z_callVI (As := [.int v1]) (st := []) (q := 5) (ct_X4_isRunner g l v0 v1) zm_RX4_166 (rc_X4_isRunner v0 v1) rfl (by decide) (by decide) (Nat.le_of_ble_eq_true rfl) rfl (by decide +kernel) rfl fun x1 => ?_
  refine z_if_ne (off := 5) (t := 10) (q := 8) (by decide +kernel) (by decide) rfl ?_ ?_
  · refine z_iconst (n := 0) (v := 0) (q := 11) (by decide +kernel) rfl (by decide) ?_
    refine z_istore_n (j := 2) (q := 12) (by decide +kernel) rfl (by decide) rfl ?_
    refine z_iconst (n := 0) (v := 0) (q := 13) (by decide +kernel) rfl (by decide) ?_
    refine z_istore_n (j := 3) (q := 14) (by decide +kernel) rfl (by decide) rfl ?_
    refine zsub [2, 3, 1, 0] rfl ?_
    exact sl_X4_laws_14 g l v0 v1 (0, 0)
  · refine z_iconst (n := (-1)) (v := (-1)) (q := 9) (by decide +kernel) rfl (by decide) ?_
    exact z_iret (by decide +kernel)
theorem rc_X4_laws (v0 : Nat) (v1 : Int32) : ∀ h x, dn_X4_laws v0 v1 h = some x → ∃ fs, zgO 4 v0 h = some fs := fun h x hd => by
  obtain ⟨fs, e, -⟩ := Option.bind_eq_some_iff.mp hd
  exact ⟨fs, e⟩
def dn_X4_powerOfFour (v0 : Int32) : zAH → Option (Int32 × zAH) := fun h => some (1 <<< ((2 * v0) &&& 31), h)
theorem ct_X4_powerOfFour (g : zG) (l : Launch) (v0 : Int32) : zCt g l yX4_powerOfFour cX4_powerOfFour 1 (some .int) 0 0 zrI [.int v0] (dn_X4_powerOfFour v0) := by
  refine zCt_of (lv := [(0, .int v0)]) (by decide +kernel) (Nat.le_of_ble_eq_true rfl) rfl ?_
  show zSm g l cX4_powerOfFour 1 RX4 "powerOfFour" (some .int) 0 0 zrI 0 [(0, .int v0)] [] (dn_X4_powerOfFour v0)
  unfold dn_X4_powerOfFour
  refine z_iconst (n := 1) (v := 1) (q := 1) (by decide +kernel) rfl (by decide) ?_
  refine z_iconst (n := 2) (v := 2) (q := 2) (by decide +kernel) rfl (by decide) ?_
  refine z_iload_n (j := 0) (q := 3) (by decide +kernel) rfl 0 rfl ?_
  refine z_imul (q := 4) (by decide +kernel) rfl ?_
  refine z_ishl (q := 5) (by decide +kernel) rfl ?_
  exact z_iret (by decide +kernel)
def dn_X4_figureOf (v0 : Int32) (v1 : Int32) : zAH → Option (Int32 × zAH) := fun h => some ((v0 >>> ((2 * v1) &&& 31)) &&& 3, h)
theorem ct_X4_figureOf (g : zG) (l : Launch) (v0 : Int32) (v1 : Int32) : zCt g l yX4_figureOf cX4_figureOf 2 (some .int) 0 0 zrI [.int v0, .int v1] (dn_X4_figureOf v0 v1) := by
  refine zCt_of (lv := [(0, .int v0), (1, .int v1)]) (by decide +kernel) (Nat.le_of_ble_eq_true rfl) rfl ?_
  show zSm g l cX4_figureOf 2 RX4 "figureOf" (some .int) 0 0 zrI 0 [(0, .int v0), (1, .int v1)] [] (dn_X4_figureOf v0 v1)
  unfold dn_X4_figureOf
  refine z_iload_n (j := 0) (q := 1) (by decide +kernel) rfl 0 rfl ?_
  refine z_iconst (n := 2) (v := 2) (q := 2) (by decide +kernel) rfl (by decide) ?_
  refine z_iload_n (j := 1) (q := 3) (by decide +kernel) rfl 1 rfl ?_
  refine z_imul (q := 4) (by decide +kernel) rfl ?_
  refine z_ishr (q := 5) (by decide +kernel) rfl ?_
  refine z_iconst (n := 3) (v := 3) (q := 6) (by decide +kernel) rfl (by decide) ?_
  refine z_iand (q := 7) (by decide +kernel) rfl ?_
  exact z_iret (by decide +kernel)
def jn_X4_tryChoices_81 (kc28 : (Int32 × Int32) → zAH → Option (Unit × zAH)) (v0 : Nat) (v1 : Int32) (v2 : Int32) (v3 : Int32) (v4 : Int32) (v5 : Int32) (v6 : Int32) : zAH → Option (Unit × zAH) := fun h => (zgA 4 5 v0 h).bind fun x1 => (zgA 4 2 v0 h).bind fun x2 => (zgI 4 7 v0 h).bind fun x3 => (zgA 4 13 v0 h).bind fun x4 => zbd (dn_X1_takeStep x1 x2 x3 x4 h) fun x5 h6 => kc28 (v5, v6 + 1) h6
theorem sj_X4_tryChoices_81 (g : zG) (l : Launch) (kc28 : (Int32 × Int32) → zAH → Option (Unit × zAH)) (v0 : Nat) (v1 : Int32) (v2 : Int32) (v3 : Int32) (v4 : Int32) (v5 : Int32) (v6 : Int32) (hkc28 : ∀ s, zSm g l cX4_tryChoices 7 RX4 "tryChoices" none 5 128 zrV 28 [(0, .ref v0), (1, .int v1), (2, .int v2), (3, .int v3), (4, .int v4), (5, .int s.1), (6, .int s.2)] [] (kc28 s)) : zSm g l cX4_tryChoices 7 RX4 "tryChoices" none 5 128 zrV 81 [(0, .ref v0), (1, .int v1), (2, .int v2), (3, .int v3), (4, .int v4), (5, .int v5), (6, .int v6)] [] (jn_X4_tryChoices_81 kc28 v0 v1 v2 v3 v4 v5 v6) := by
  unfold jn_X4_tryChoices_81
  refine z_aload_n (j := 0) (q := 82) (by decide +kernel) rfl 0 rfl ?_
  refine z_getA (q := 85) zf_RX4_35 (by decide +kernel) rfl fun x1 => ?_
  refine z_aload_n (j := 0) (q := 86) (by decide +kernel) rfl 0 rfl ?_
  refine z_getA (q := 89) zf_RX4_21 (by decide +kernel) rfl fun x2 => ?_
  refine z_aload_n (j := 0) (q := 90) (by decide +kernel) rfl 0 rfl ?_
  refine z_getI (q := 93) zf_RX4_42 (by decide +kernel) rfl fun x3 => ?_
  refine z_aload_n (j := 0) (q := 94) (by decide +kernel) rfl 0 rfl ?_
  refine z_getA (q := 97) zf_RX4_63 (by decide +kernel) rfl fun x4 => ?_
  refine z_callVU (As := [.ref x2, .int x3, .ref x4]) (st := []) (q := 100) (ct_X1_takeStep g l x1 x2 x3 x4) zm_RX4_197 (rc_X1_takeStep x1 x2 x3 x4) rfl (by decide) (by decide) (Nat.le_of_ble_eq_true rfl) rfl (by decide +kernel) rfl fun x5 => ?_
  refine z_iinc (j := 6) (n := 1) (v := 1) (q := 103) (by decide +kernel) rfl 6 rfl (by decide) (by decide) rfl ?_
  refine z_goto (off := (-75)) (t := 28) (by decide +kernel) (by decide) ?_
  refine zsub [1, 2, 3, 4, 5, 6, 0] rfl ?_
  exact hkc28 (v5, v6 + 1)
def jn_X4_tryChoices_125 (v0 : Nat) : zAH → Option (Unit × zAH) := fun h => (zgA 4 5 v0 h).bind fun x1 => (zgA 4 2 v0 h).bind fun x2 => (zgI 4 7 v0 h).bind fun x3 => (zgA 4 13 v0 h).bind fun x4 => zbd (dn_X1_runOut x1 x2 x3 x4 h) fun x5 h6 => some ((), h6)
theorem sj_X4_tryChoices_125 (g : zG) (l : Launch) (v0 : Nat) : zSm g l cX4_tryChoices 7 RX4 "tryChoices" none 5 128 zrV 125 [(0, .ref v0)] [] (jn_X4_tryChoices_125 v0) := by
  unfold jn_X4_tryChoices_125
  refine z_aload_n (j := 0) (q := 126) (by decide +kernel) rfl 0 rfl ?_
  refine z_getA (q := 129) zf_RX4_35 (by decide +kernel) rfl fun x1 => ?_
  refine z_aload_n (j := 0) (q := 130) (by decide +kernel) rfl 0 rfl ?_
  refine z_getA (q := 133) zf_RX4_21 (by decide +kernel) rfl fun x2 => ?_
  refine z_aload_n (j := 0) (q := 134) (by decide +kernel) rfl 0 rfl ?_
  refine z_getI (q := 137) zf_RX4_42 (by decide +kernel) rfl fun x3 => ?_
  refine z_aload_n (j := 0) (q := 138) (by decide +kernel) rfl 0 rfl ?_
  refine z_getA (q := 141) zf_RX4_63 (by decide +kernel) rfl fun x4 => ?_
  refine z_callVU (As := [.ref x2, .int x3, .ref x4]) (st := []) (q := 144) (ct_X1_runOut g l x1 x2 x3 x4) zm_RX4_319 (rc_X1_runOut x1 x2 x3 x4) rfl (by decide) (by decide) (Nat.le_of_ble_eq_true rfl) rfl (by decide +kernel) rfl fun x5 => ?_
  exact z_vret (by decide +kernel)
def jn_X4_tryChoices_106 (v0 : Nat) (v1 : Int32) (v2 : Int32) : zAH → Option (Unit × zAH) := fun h => (zgA 4 13 v0 h).bind fun x1 => (zaS 0 x1 v1 ((-1)) h).bind fun h2 => if v2 = ((-1)) then jn_X4_tryChoices_125 v0 h2 else (zgA 4 13 v0 h2).bind fun x3 => (zaS 0 x3 v2 ((-1)) h2).bind fun h4 => jn_X4_tryChoices_125 v0 h4
theorem sj_X4_tryChoices_106 (g : zG) (l : Launch) (v0 : Nat) (v1 : Int32) (v2 : Int32) : zSm g l cX4_tryChoices 7 RX4 "tryChoices" none 5 128 zrV 106 [(0, .ref v0), (1, .int v1), (2, .int v2)] [] (jn_X4_tryChoices_106 v0 v1 v2) := by
  unfold jn_X4_tryChoices_106
  refine z_aload_n (j := 0) (q := 107) (by decide +kernel) rfl 0 rfl ?_
  refine z_getA (q := 110) zf_RX4_63 (by decide +kernel) rfl fun x1 => ?_
  refine z_iload_n (j := 1) (q := 111) (by decide +kernel) rfl 1 rfl ?_
  refine z_iconst (n := (-1)) (v := (-1)) (q := 112) (by decide +kernel) rfl (by decide) ?_
  refine z_iast (q := 113) (Or.inl ⟨rfl, rfl, rfl⟩) (by decide +kernel) rfl ?_
  refine z_iload_n (j := 2) (q := 114) (by decide +kernel) rfl 2 rfl ?_
  refine z_iconst (n := (-1)) (v := (-1)) (q := 115) (by decide +kernel) rfl (by decide) ?_
  refine z_icmp_eq (off := 10) (t := 125) (q := 118) (by decide +kernel) (by decide) rfl ?_ ?_
  · refine zsub [0] rfl ?_
    exact sj_X4_tryChoices_125 g l v0
  · refine z_aload_n (j := 0) (q := 119) (by decide +kernel) rfl 0 rfl ?_
    refine z_getA (q := 122) zf_RX4_63 (by decide +kernel) rfl fun x3 => ?_
    refine z_iload_n (j := 2) (q := 123) (by decide +kernel) rfl 2 rfl ?_
    refine z_iconst (n := (-1)) (v := (-1)) (q := 124) (by decide +kernel) rfl (by decide) ?_
    refine z_iast (q := 125) (Or.inl ⟨rfl, rfl, rfl⟩) (by decide +kernel) rfl ?_
    refine zsub [0] rfl ?_
    exact sj_X4_tryChoices_125 g l v0
def lb_X4_tryChoices_28 (v0 : Nat) (v1 : Int32) (v2 : Int32) (v3 : Int32) (v4 : Int32) (rec : (Int32 × Int32) → zAH → Option (Unit × zAH)) (s : Int32 × Int32) : zAH → Option (Unit × zAH) := fun h => if s.2 < v3 then (zgA 4 5 v0 h).bind fun x1 => zbd (dn_X1_isOver x1 h) fun x2 h3 => if x2 = 0 then (zgA 4 13 v0 h3).bind fun x4 => zbd (dn_X4_figureOf v4 (s.1 + (-1)) h3) fun x5 h6 => (zaS 0 x4 v1 x5 h6).bind fun h7 => if v2 = ((-1)) then jn_X4_tryChoices_81 rec v0 v1 v2 v3 v4 (s.1 + (-1)) s.2 h7 else (zgA 4 13 v0 h7).bind fun x8 => zbd (dn_X4_figureOf v4 ((s.1 + (-1)) + (-1)) h7) fun x9 h10 => (zaS 0 x8 v2 x9 h10).bind fun h11 => jn_X4_tryChoices_81 rec v0 v1 v2 v3 v4 ((s.1 + (-1)) + (-1)) s.2 h11 else jn_X4_tryChoices_106 v0 v1 v2 h3 else jn_X4_tryChoices_106 v0 v1 v2 h
def lp_X4_tryChoices_28 (v0 : Nat) (v1 : Int32) (v2 : Int32) (v3 : Int32) (v4 : Int32) (s : Int32 × Int32) : zAH → Option (Unit × zAH) := zlp (lb_X4_tryChoices_28 v0 v1 v2 v3 v4) 2000 s
theorem sl_X4_tryChoices_28 (g : zG) (l : Launch) (v0 : Nat) (v1 : Int32) (v2 : Int32) (v3 : Int32) (v4 : Int32) (s : Int32 × Int32) : zSm g l cX4_tryChoices 7 RX4 "tryChoices" none 5 128 zrV 28 [(0, .ref v0), (1, .int v1), (2, .int v2), (3, .int v3), (4, .int v4), (5, .int s.1), (6, .int s.2)] [] (lp_X4_tryChoices_28 v0 v1 v2 v3 v4 s) := by
  unfold lp_X4_tryChoices_28
  refine z_loop (lvf := fun s => [(0, .ref v0), (1, .int v1), (2, .int v2), (3, .int v3), (4, .int v4), (5, .int s.1), (6, .int s.2)]) (fun rec hrec s => ?_) 2000 s
  unfold lb_X4_tryChoices_28
  refine z_iload (j := 6) (q := 30) (by decide +kernel) rfl 6 rfl ?_
  refine z_iload_n (j := 3) (q := 31) (by decide +kernel) rfl 3 rfl ?_
  refine z_icmp_ge (off := 75) (t := 106) (q := 34) (by decide +kernel) (by decide) rfl ?_ ?_
  · refine zsub [0, 1, 2] rfl ?_
    exact sj_X4_tryChoices_106 g l v0 v1 v2
  · refine z_aload_n (j := 0) (q := 35) (by decide +kernel) rfl 0 rfl ?_
    refine z_getA (q := 38) zf_RX4_35 (by decide +kernel) rfl fun x1 => ?_
    refine z_callVI (As := []) (st := []) (q := 41) (ct_X1_isOver g l x1) zm_RX4_194 (rc_X1_isOver x1) rfl (by decide) (by decide) (Nat.le_of_ble_eq_true rfl) rfl (by decide +kernel) rfl fun x2 => ?_
    refine z_if_ne (off := 65) (t := 106) (q := 44) (by decide +kernel) (by decide) rfl ?_ ?_
    · refine zsub [0, 1, 2] rfl ?_
      exact sj_X4_tryChoices_106 g l v0 v1 v2
    · refine z_iinc (j := 5) (n := (-1)) (v := (-1)) (q := 47) (by decide +kernel) rfl 5 rfl (by decide) (by decide) rfl ?_
      refine z_aload_n (j := 0) (q := 48) (by decide +kernel) rfl 1 rfl ?_
      refine z_getA (q := 51) zf_RX4_63 (by decide +kernel) rfl fun x4 => ?_
      refine z_iload_n (j := 1) (q := 52) (by decide +kernel) rfl 2 rfl ?_
      refine z_iload (j := 4) (q := 54) (by decide +kernel) rfl 5 rfl ?_
      refine z_iload (j := 5) (q := 56) (by decide +kernel) rfl 0 rfl ?_
      refine z_callSI (As := [.int v4, .int (s.1 + (-1))]) (st := [.int v1, .ref x4]) (q := 59) (ct_X4_figureOf g l v4 (s.1 + (-1))) zm_RX4_258 rfl (by decide) (by decide) (Nat.le_of_ble_eq_true rfl) rfl (by decide +kernel) rfl fun x5 => ?_
      refine z_iast (q := 60) (Or.inl ⟨rfl, rfl, rfl⟩) (by decide +kernel) rfl ?_
      refine z_iload_n (j := 2) (q := 61) (by decide +kernel) rfl 3 rfl ?_
      refine z_iconst (n := (-1)) (v := (-1)) (q := 62) (by decide +kernel) rfl (by decide) ?_
      refine z_icmp_eq (off := 19) (t := 81) (q := 65) (by decide +kernel) (by decide) rfl ?_ ?_
      · refine zsub [1, 2, 3, 4, 5, 0, 6] rfl ?_
        exact sj_X4_tryChoices_81 g l rec v0 v1 v2 v3 v4 (s.1 + (-1)) s.2 hrec
      · refine z_iinc (j := 5) (n := (-1)) (v := (-1)) (q := 68) (by decide +kernel) rfl 0 rfl (by decide) (by decide) rfl ?_
        refine z_aload_n (j := 0) (q := 69) (by decide +kernel) rfl 1 rfl ?_
        refine z_getA (q := 72) zf_RX4_63 (by decide +kernel) rfl fun x8 => ?_
        refine z_iload_n (j := 2) (q := 73) (by decide +kernel) rfl 3 rfl ?_
        refine z_iload (j := 4) (q := 75) (by decide +kernel) rfl 5 rfl ?_
        refine z_iload (j := 5) (q := 77) (by decide +kernel) rfl 0 rfl ?_
        refine z_callSI (As := [.int v4, .int ((s.1 + (-1)) + (-1))]) (st := [.int v2, .ref x8]) (q := 80) (ct_X4_figureOf g l v4 ((s.1 + (-1)) + (-1))) zm_RX4_258 rfl (by decide) (by decide) (Nat.le_of_ble_eq_true rfl) rfl (by decide +kernel) rfl fun x9 => ?_
        refine z_iast (q := 81) (Or.inl ⟨rfl, rfl, rfl⟩) (by decide +kernel) rfl ?_
        refine zsub [1, 2, 3, 4, 5, 0, 6] rfl ?_
        exact sj_X4_tryChoices_81 g l rec v0 v1 v2 v3 v4 ((s.1 + (-1)) + (-1)) s.2 hrec
def jn_X4_tryChoices_23 (v0 : Nat) (v1 : Int32) (v2 : Int32) (v3 : Int32) (v4 : Int32) (w0 : Int32) : zAH → Option (Unit × zAH) := fun h => lp_X4_tryChoices_28 v0 v1 v2 v3 v4 (w0, 0) h
theorem sj_X4_tryChoices_23 (g : zG) (l : Launch) (v0 : Nat) (v1 : Int32) (v2 : Int32) (v3 : Int32) (v4 : Int32) (w0 : Int32) : zSm g l cX4_tryChoices 7 RX4 "tryChoices" none 5 128 zrV 23 [(0, .ref v0), (1, .int v1), (2, .int v2), (3, .int v3), (4, .int v4)] [.int w0] (jn_X4_tryChoices_23 v0 v1 v2 v3 v4 w0) := by
  unfold jn_X4_tryChoices_23
  refine z_istore (j := 5) (q := 25) (by decide +kernel) rfl (by decide) rfl ?_
  refine z_iconst (n := 0) (v := 0) (q := 26) (by decide +kernel) rfl (by decide) ?_
  refine z_istore (j := 6) (q := 28) (by decide +kernel) rfl (by decide) rfl ?_
  refine zsub [2, 3, 4, 5, 6, 1, 0] rfl ?_
  exact sl_X4_tryChoices_28 g l v0 v1 v2 v3 v4 (w0, 0)
def dn_X4_tryChoices (v0 : Nat) (v1 : Int32) (v2 : Int32) (v3 : Int32) (v4 : Int32) : zAH → Option (Unit × zAH) := fun h => (zgO 4 v0 h).bind fun _ => (zgA 4 5 v0 h).bind fun x1 => (zgA 4 4 v0 h).bind fun x2 => zbd (dn_X1_becomeLike x1 x2 h) fun x3 h4 => if v2 = ((-1)) then jn_X4_tryChoices_23 v0 v1 v2 v3 v4 v3 h4 else jn_X4_tryChoices_23 v0 v1 v2 v3 v4 (2 * v3) h4
theorem ct_X4_tryChoices (g : zG) (l : Launch) (v0 : Nat) (v1 : Int32) (v2 : Int32) (v3 : Int32) (v4 : Int32) : zCt g l yX4_tryChoices cX4_tryChoices 7 none 5 128 zrV [.ref v0, .int v1, .int v2, .int v3, .int v4] (dn_X4_tryChoices v0 v1 v2 v3 v4) := by
  refine zCt_of (lv := [(0, .ref v0), (1, .int v1), (2, .int v2), (3, .int v3), (4, .int v4)]) (by decide +kernel) (Nat.le_of_ble_eq_true rfl) rfl ?_
  show zSm g l cX4_tryChoices 7 RX4 "tryChoices" none 5 128 zrV 0 [(0, .ref v0), (1, .int v1), (2, .int v2), (3, .int v3), (4, .int v4)] [] (dn_X4_tryChoices v0 v1 v2 v3 v4)
  unfold dn_X4_tryChoices
  refine z_rec ?_
  refine z_aload_n (j := 0) (q := 1) (by decide +kernel) rfl 0 rfl ?_
  refine z_getA (q := 4) zf_RX4_35 (by decide +kernel) rfl fun x1 => ?_
  refine z_aload_n (j := 0) (q := 5) (by decide +kernel) rfl 0 rfl ?_
  refine z_getA (q := 8) zf_RX4_31 (by decide +kernel) rfl fun x2 => ?_
  refine z_callVU (As := [.ref x2]) (st := []) (q := 11) (ct_X1_becomeLike g l x1 x2) zm_RX4_217 (rc_X1_becomeLike x1 x2) rfl (by decide) (by decide) (Nat.le_of_ble_eq_true rfl) rfl (by decide +kernel) rfl fun x3 => ?_
  refine z_iload_n (j := 2) (q := 12) (by decide +kernel) rfl 2 rfl ?_
  refine z_iconst (n := (-1)) (v := (-1)) (q := 13) (by decide +kernel) rfl (by decide) ?_
  refine z_icmp_ne (off := 7) (t := 20) (q := 16) (by decide +kernel) (by decide) rfl ?_ ?_
  · refine z_iconst (n := 2) (v := 2) (q := 21) (by decide +kernel) rfl (by decide) ?_
    refine z_iload_n (j := 3) (q := 22) (by decide +kernel) rfl 3 rfl ?_
    refine z_imul (q := 23) (by decide +kernel) rfl ?_
    refine zsub [0, 1, 2, 3, 4] rfl ?_
    exact sj_X4_tryChoices_23 g l v0 v1 v2 v3 v4 (2 * v3)
  · refine z_iload_n (j := 3) (q := 17) (by decide +kernel) rfl 3 rfl ?_
    refine z_goto (off := 6) (t := 23) (by decide +kernel) (by decide) ?_
    refine zsub [0, 1, 2, 3, 4] rfl ?_
    exact sj_X4_tryChoices_23 g l v0 v1 v2 v3 v4 v3
theorem rc_X4_tryChoices (v0 : Nat) (v1 : Int32) (v2 : Int32) (v3 : Int32) (v4 : Int32) : ∀ h x, dn_X4_tryChoices v0 v1 v2 v3 v4 h = some x → ∃ fs, zgO 4 v0 h = some fs := fun h x hd => by
  obtain ⟨fs, e, -⟩ := Option.bind_eq_some_iff.mp hd
  exact ⟨fs, e⟩
def jn_X4_best_18 : zAH → Option (Int32 × zAH) := fun h => some ((-1), h)
theorem sj_X4_best_18 (g : zG) (l : Launch) : zSm g l cX4_best 8 RX4 "best" (some .int) 6 154 zrI 18 [] [] (jn_X4_best_18) := by
  unfold jn_X4_best_18
  refine z_iconst (n := (-1)) (v := (-1)) (q := 19) (by decide +kernel) rfl (by decide) ?_
  exact z_iret (by decide +kernel)
def jn_X4_best_93 (kc35 : (Int32 × Int32 × Int32) → zAH → Option (Int32 × zAH)) (v0 : Nat) (v1 : Int32) (v2 : Int32) (v3 : Int32) (v4 : Int32) (v5 : Int32) (v6 : Int32) : zAH → Option (Int32 × zAH) := fun h => kc35 (v4, v5, v6 + 1) h
theorem sj_X4_best_93 (g : zG) (l : Launch) (kc35 : (Int32 × Int32 × Int32) → zAH → Option (Int32 × zAH)) (v0 : Nat) (v1 : Int32) (v2 : Int32) (v3 : Int32) (v4 : Int32) (v5 : Int32) (v6 : Int32) (hkc35 : ∀ s, zSm g l cX4_best 8 RX4 "best" (some .int) 6 154 zrI 35 [(0, .ref v0), (1, .int v1), (2, .int v2), (3, .int v3), (4, .int s.1), (5, .int s.2.1), (6, .int s.2.2)] [] (kc35 s)) : zSm g l cX4_best 8 RX4 "best" (some .int) 6 154 zrI 93 [(0, .ref v0), (1, .int v1), (2, .int v2), (3, .int v3), (4, .int v4), (5, .int v5), (6, .int v6)] [] (jn_X4_best_93 kc35 v0 v1 v2 v3 v4 v5 v6) := by
  unfold jn_X4_best_93
  refine z_iinc (j := 6) (n := 1) (v := 1) (q := 96) (by decide +kernel) rfl 6 rfl (by decide) (by decide) rfl ?_
  refine z_goto (off := (-61)) (t := 35) (by decide +kernel) (by decide) ?_
  refine zsub [1, 2, 3, 4, 5, 6, 0] rfl ?_
  exact hkc35 (v4, v5, v6 + 1)
def jn_X4_best_75 (kc35 : (Int32 × Int32 × Int32) → zAH → Option (Int32 × zAH)) (v0 : Nat) (v1 : Int32) (v2 : Int32) (v3 : Int32) (v4 : Int32) (v5 : Int32) (v6 : Int32) (w0 : Int32) (w1 : Int32) : zAH → Option (Int32 × zAH) := fun h => if (w0 + w1) < v5 then jn_X4_best_93 kc35 v0 v1 v2 v3 v6 (w0 + w1) v6 h else jn_X4_best_93 kc35 v0 v1 v2 v3 v4 v5 v6 h
theorem sj_X4_best_75 (g : zG) (l : Launch) (kc35 : (Int32 × Int32 × Int32) → zAH → Option (Int32 × zAH)) (v0 : Nat) (v1 : Int32) (v2 : Int32) (v3 : Int32) (v4 : Int32) (v5 : Int32) (v6 : Int32) (w0 : Int32) (w1 : Int32) (hkc35 : ∀ s, zSm g l cX4_best 8 RX4 "best" (some .int) 6 154 zrI 35 [(0, .ref v0), (1, .int v1), (2, .int v2), (3, .int v3), (4, .int s.1), (5, .int s.2.1), (6, .int s.2.2)] [] (kc35 s)) : zSm g l cX4_best 8 RX4 "best" (some .int) 6 154 zrI 75 [(0, .ref v0), (1, .int v1), (2, .int v2), (3, .int v3), (4, .int v4), (5, .int v5), (6, .int v6)] [.int w1, .int w0] (jn_X4_best_75 kc35 v0 v1 v2 v3 v4 v5 v6 w0 w1) := by
  unfold jn_X4_best_75
  refine z_iadd (q := 76) (by decide +kernel) rfl ?_
  refine z_istore (j := 7) (q := 78) (by decide +kernel) rfl (by decide) rfl ?_
  refine z_iload (j := 7) (q := 80) (by decide +kernel) rfl 0 rfl ?_
  refine z_iload (j := 5) (q := 82) (by decide +kernel) rfl 6 rfl ?_
  refine z_icmp_ge (off := 11) (t := 93) (q := 85) (by decide +kernel) (by decide) rfl ?_ ?_
  · refine zsub [1, 2, 3, 4, 5, 6, 7] rfl ?_
    exact sj_X4_best_93 g l kc35 v0 v1 v2 v3 v4 v5 v6 hkc35
  · refine z_iload (j := 7) (q := 87) (by decide +kernel) rfl 0 rfl ?_
    refine z_istore (j := 5) (q := 89) (by decide +kernel) rfl (by decide) rfl ?_
    refine z_iload (j := 6) (q := 91) (by decide +kernel) rfl 7 rfl ?_
    refine z_istore (j := 4) (q := 93) (by decide +kernel) rfl (by decide) rfl ?_
    refine zsub [3, 4, 5, 6, 0, 1, 7] rfl ?_
    exact sj_X4_best_93 g l kc35 v0 v1 v2 v3 v6 (w0 + w1) v6 hkc35
def jn_X4_best_125 (v4 : Int32) (w0 : Nat) (w1 : Int32) : zAH → Option (Int32 × zAH) := fun h => (zpF 4 8 w0 (.int w1) h).bind fun h1 => some (v4, h1)
theorem sj_X4_best_125 (g : zG) (l : Launch) (v4 : Int32) (w0 : Nat) (w1 : Int32) : zSm g l cX4_best 8 RX4 "best" (some .int) 6 154 zrI 125 [(4, .int v4)] [.int w1, .ref w0] (jn_X4_best_125 v4 w0 w1) := by
  unfold jn_X4_best_125
  refine z_putV (q := 128) zp_RX4_46 (fun z => by cases z) rfl rfl (by decide +kernel) rfl ?_
  refine z_iload (j := 4) (q := 130) (by decide +kernel) rfl 0 rfl ?_
  exact z_iret (by decide +kernel)
def jn_X4_best_99 (v0 : Nat) (v4 : Int32) (v5 : Int32) : zAH → Option (Int32 × zAH) := fun h => if 10 < v5 then jn_X4_best_125 v4 v0 ((10 * (v5 - 10)) + 1) h else jn_X4_best_125 v4 v0 (10 * v5) h
theorem sj_X4_best_99 (g : zG) (l : Launch) (v0 : Nat) (v4 : Int32) (v5 : Int32) : zSm g l cX4_best 8 RX4 "best" (some .int) 6 154 zrI 99 [(0, .ref v0), (4, .int v4), (5, .int v5)] [] (jn_X4_best_99 v0 v4 v5) := by
  unfold jn_X4_best_99
  refine z_aload_n (j := 0) (q := 100) (by decide +kernel) rfl 0 rfl ?_
  refine z_iload (j := 5) (q := 102) (by decide +kernel) rfl 2 rfl ?_
  refine z_bipush (n := 10) (v := 10) (q := 104) (by decide +kernel) rfl (by decide) ?_
  refine z_icmp_le (off := 16) (t := 120) (q := 107) (by decide +kernel) (by decide) rfl ?_ ?_
  · refine z_bipush (n := 10) (v := 10) (q := 122) (by decide +kernel) rfl (by decide) ?_
    refine z_iload (j := 5) (q := 124) (by decide +kernel) rfl 2 rfl ?_
    refine z_imul (q := 125) (by decide +kernel) rfl ?_
    refine zsub [1] rfl ?_
    exact sj_X4_best_125 g l v4 v0 (10 * v5)
  · refine z_bipush (n := 10) (v := 10) (q := 109) (by decide +kernel) rfl (by decide) ?_
    refine z_iload (j := 5) (q := 111) (by decide +kernel) rfl 2 rfl ?_
    refine z_bipush (n := 10) (v := 10) (q := 113) (by decide +kernel) rfl (by decide) ?_
    refine z_isub (q := 114) (by decide +kernel) rfl ?_
    refine z_imul (q := 115) (by decide +kernel) rfl ?_
    refine z_iconst (n := 1) (v := 1) (q := 116) (by decide +kernel) rfl (by decide) ?_
    refine z_iadd (q := 117) (by decide +kernel) rfl ?_
    refine z_goto (off := 8) (t := 125) (by decide +kernel) (by decide) ?_
    refine zsub [1] rfl ?_
    exact sj_X4_best_125 g l v4 v0 ((10 * (v5 - 10)) + 1)
def lb_X4_best_35 (v0 : Nat) (v1 : Int32) (v2 : Int32) (v3 : Int32) (rec : (Int32 × Int32 × Int32) → zAH → Option (Int32 × zAH)) (s : Int32 × Int32 × Int32) : zAH → Option (Int32 × zAH) := fun h => if s.2.2 < v3 then zbd (dn_X4_tryChoices v0 v1 ((-1)) v2 s.2.2 h) fun x1 h2 => (zgA 4 5 v0 h2).bind fun x3 => zbd (dn_X1_rankOf x3 v1 h2) fun x4 h5 => (zgA 4 5 v0 h5).bind fun x6 => (zgI 1 3 x6 h5).bind fun x7 => if x7 = v1 then jn_X4_best_75 rec v0 v1 v2 v3 s.1 s.2.1 s.2.2 x4 10 h5 else jn_X4_best_75 rec v0 v1 v2 v3 s.1 s.2.1 s.2.2 x4 0 h5 else jn_X4_best_99 v0 s.1 s.2.1 h
def lp_X4_best_35 (v0 : Nat) (v1 : Int32) (v2 : Int32) (v3 : Int32) (s : Int32 × Int32 × Int32) : zAH → Option (Int32 × zAH) := zlp (lb_X4_best_35 v0 v1 v2 v3) 2000 s
theorem sl_X4_best_35 (g : zG) (l : Launch) (v0 : Nat) (v1 : Int32) (v2 : Int32) (v3 : Int32) (s : Int32 × Int32 × Int32) : zSm g l cX4_best 8 RX4 "best" (some .int) 6 154 zrI 35 [(0, .ref v0), (1, .int v1), (2, .int v2), (3, .int v3), (4, .int s.1), (5, .int s.2.1), (6, .int s.2.2)] [] (lp_X4_best_35 v0 v1 v2 v3 s) := by
  unfold lp_X4_best_35
  refine z_loop (lvf := fun s => [(0, .ref v0), (1, .int v1), (2, .int v2), (3, .int v3), (4, .int s.1), (5, .int s.2.1), (6, .int s.2.2)]) (fun rec hrec s => ?_) 2000 s
  unfold lb_X4_best_35
  refine z_iload (j := 6) (q := 37) (by decide +kernel) rfl 6 rfl ?_
  refine z_iload_n (j := 3) (q := 38) (by decide +kernel) rfl 3 rfl ?_
  refine z_icmp_ge (off := 61) (t := 99) (q := 41) (by decide +kernel) (by decide) rfl ?_ ?_
  · refine zsub [0, 4, 5] rfl ?_
    exact sj_X4_best_99 g l v0 s.1 s.2.1
  · refine z_aload_n (j := 0) (q := 42) (by decide +kernel) rfl 0 rfl ?_
    refine z_iload_n (j := 1) (q := 43) (by decide +kernel) rfl 1 rfl ?_
    refine z_iconst (n := (-1)) (v := (-1)) (q := 44) (by decide +kernel) rfl (by decide) ?_
    refine z_iload_n (j := 2) (q := 45) (by decide +kernel) rfl 2 rfl ?_
    refine z_iload (j := 6) (q := 47) (by decide +kernel) rfl 6 rfl ?_
    refine z_callVU (As := [.int v1, .int ((-1)), .int v2, .int s.2.2]) (st := []) (q := 50) (ct_X4_tryChoices g l v0 v1 ((-1)) v2 s.2.2) zm_RX4_234 (rc_X4_tryChoices v0 v1 ((-1)) v2 s.2.2) rfl (by decide) (by decide) (Nat.le_of_ble_eq_true rfl) rfl (by decide +kernel) rfl fun x1 => ?_
    refine z_aload_n (j := 0) (q := 51) (by decide +kernel) rfl 0 rfl ?_
    refine z_getA (q := 54) zf_RX4_35 (by decide +kernel) rfl fun x3 => ?_
    refine z_iload_n (j := 1) (q := 55) (by decide +kernel) rfl 1 rfl ?_
    refine z_callVI (As := [.int v1]) (st := []) (q := 58) (ct_X1_rankOf g l x3 v1) zm_RX4_228 (rc_X1_rankOf x3 v1) rfl (by decide) (by decide) (Nat.le_of_ble_eq_true rfl) rfl (by decide +kernel) rfl fun x4 => ?_
    refine z_aload_n (j := 0) (q := 59) (by decide +kernel) rfl 0 rfl ?_
    refine z_getA (q := 62) zf_RX4_35 (by decide +kernel) rfl fun x6 => ?_
    refine z_getI (q := 65) zf_RX4_208 (by decide +kernel) rfl fun x7 => ?_
    refine z_iload_n (j := 1) (q := 66) (by decide +kernel) rfl 1 rfl ?_
    refine z_icmp_ne (off := 8) (t := 74) (q := 69) (by decide +kernel) (by decide) rfl ?_ ?_
    · refine z_iconst (n := 0) (v := 0) (q := 75) (by decide +kernel) rfl (by decide) ?_
      refine zsub [0, 1, 2, 3, 4, 5, 6] rfl ?_
      exact sj_X4_best_75 g l rec v0 v1 v2 v3 s.1 s.2.1 s.2.2 x4 0 hrec
    · refine z_bipush (n := 10) (v := 10) (q := 71) (by decide +kernel) rfl (by decide) ?_
      refine z_goto (off := 4) (t := 75) (by decide +kernel) (by decide) ?_
      refine zsub [0, 1, 2, 3, 4, 5, 6] rfl ?_
      exact sj_X4_best_75 g l rec v0 v1 v2 v3 s.1 s.2.1 s.2.2 x4 10 hrec
def dn_X4_best (v0 : Nat) (v1 : Int32) (v2 : Int32) : zAH → Option (Int32 × zAH) := fun h => (zgO 4 v0 h).bind fun _ => zbd (dn_X4_isRunner v0 v1 h) fun x1 h2 => if x1 = 0 then jn_X4_best_18 h2 else if v2 < 1 then jn_X4_best_18 h2 else if 4 < v2 then jn_X4_best_18 h2 else zbd (dn_X4_powerOfFour v2 h2) fun x3 h4 => lp_X4_best_35 v0 v1 v2 x3 (0, 20, 0) h4
theorem ct_X4_best (g : zG) (l : Launch) (v0 : Nat) (v1 : Int32) (v2 : Int32) : zCt g l yX4_best cX4_best 8 (some .int) 6 154 zrI [.ref v0, .int v1, .int v2] (dn_X4_best v0 v1 v2) := by
  refine zCt_of (lv := [(0, .ref v0), (1, .int v1), (2, .int v2)]) (by decide +kernel) (Nat.le_of_ble_eq_true rfl) rfl ?_
  show zSm g l cX4_best 8 RX4 "best" (some .int) 6 154 zrI 0 [(0, .ref v0), (1, .int v1), (2, .int v2)] [] (dn_X4_best v0 v1 v2)
  unfold dn_X4_best
  refine z_rec ?_
  refine z_aload_n (j := 0) (q := 1) (by decide +kernel) rfl 0 rfl ?_
  refine z_iload_n (j := 1) (q := 2) (by decide +kernel) rfl 1 rfl ?_
  refine z_callVI (As := [.int v1]) (st := []) (q := 5) (ct_X4_isRunner g l v0 v1) zm_RX4_166 (rc_X4_isRunner v0 v1) rfl (by decide) (by decide) (Nat.le_of_ble_eq_true rfl) rfl (by decide +kernel) rfl fun x1 => ?_
  refine z_if_eq (off := 13) (t := 18) (q := 8) (by decide +kernel) (by decide) rfl ?_ ?_
  · refine zsub [] rfl ?_
    exact sj_X4_best_18 g l 
  · refine z_iload_n (j := 2) (q := 9) (by decide +kernel) rfl 2 rfl ?_
    refine z_iconst (n := 1) (v := 1) (q := 10) (by decide +kernel) rfl (by decide) ?_
    refine z_icmp_lt (off := 8) (t := 18) (q := 13) (by decide +kernel) (by decide) rfl ?_ ?_
    · refine zsub [] rfl ?_
      exact sj_X4_best_18 g l 
    · refine z_iload_n (j := 2) (q := 14) (by decide +kernel) rfl 2 rfl ?_
      refine z_iconst (n := 4) (v := 4) (q := 15) (by decide +kernel) rfl (by decide) ?_
      refine z_icmp_le (off := 5) (t := 20) (q := 18) (by decide +kernel) (by decide) rfl ?_ ?_
      · refine z_iload_n (j := 2) (q := 21) (by decide +kernel) rfl 2 rfl ?_
        refine z_callSI (As := [.int v2]) (st := []) (q := 24) (ct_X4_powerOfFour g l v2) zm_RX4_231 rfl (by decide) (by decide) (Nat.le_of_ble_eq_true rfl) rfl (by decide +kernel) rfl fun x3 => ?_
        refine z_istore_n (j := 3) (q := 25) (by decide +kernel) rfl (by decide) rfl ?_
        refine z_iconst (n := 0) (v := 0) (q := 26) (by decide +kernel) rfl (by decide) ?_
        refine z_istore (j := 4) (q := 28) (by decide +kernel) rfl (by decide) rfl ?_
        refine z_bipush (n := 20) (v := 20) (q := 30) (by decide +kernel) rfl (by decide) ?_
        refine z_istore (j := 5) (q := 32) (by decide +kernel) rfl (by decide) rfl ?_
        refine z_iconst (n := 0) (v := 0) (q := 33) (by decide +kernel) rfl (by decide) ?_
        refine z_istore (j := 6) (q := 35) (by decide +kernel) rfl (by decide) rfl ?_
        refine zsub [4, 5, 6, 3, 2, 1, 0] rfl ?_
        exact sl_X4_best_35 g l v0 v1 v2 x3 (0, 20, 0)
      · refine zsub [] rfl ?_
        exact sj_X4_best_18 g l 
theorem rc_X4_best (v0 : Nat) (v1 : Int32) (v2 : Int32) : ∀ h x, dn_X4_best v0 v1 v2 h = some x → ∃ fs, zgO 4 v0 h = some fs := fun h x hd => by
  obtain ⟨fs, e, -⟩ := Option.bind_eq_some_iff.mp hd
  exact ⟨fs, e⟩
def jn_X4_tellFraction_67 : zAH → Option (Unit × zAH) := fun h => some ((), h)
theorem sj_X4_tellFraction_67 (g : zG) (l : Launch) : zSm g l cX4_tellFraction 12 RX4 "tellFraction" none 0 0 zrV 67 [] [] (jn_X4_tellFraction_67) := by
  unfold jn_X4_tellFraction_67
  exact z_vret (by decide +kernel)
def jn_X4_tellFraction_44 (v0 : Nat) (v1 : Int64) (v3 : Int64) (v5 : Int64) : zAH → Option (Unit × zAH) := fun h => if 0 < (lg_cmp v5 0) then if v5 = 0 then none else (zpF 4 9 v0 (.long (v1 / v5)) h).bind fun h1 => if v5 = 0 then none else (zpF 4 10 v0 (.long (v3 / v5)) h1).bind fun h2 => jn_X4_tellFraction_67 h2 else jn_X4_tellFraction_67 h
theorem sj_X4_tellFraction_44 (g : zG) (l : Launch) (v0 : Nat) (v1 : Int64) (v3 : Int64) (v5 : Int64) : zSm g l cX4_tellFraction 12 RX4 "tellFraction" none 0 0 zrV 44 [(0, .ref v0), (1, .long v1), (3, .long v3), (5, .long v5)] [] (jn_X4_tellFraction_44 v0 v1 v3 v5) := by
  unfold jn_X4_tellFraction_44
  refine z_lload (j := 5) (q := 46) (by decide +kernel) rfl 3 rfl ?_
  refine z_lconst (n := 0) (v := 0) (q := 47) (by decide +kernel) rfl (by decide) ?_
  refine z_lcmp (q := 48) (by decide +kernel) rfl ?_
  refine z_if_le (off := 19) (t := 67) (q := 51) (by decide +kernel) (by decide) rfl ?_ ?_
  · refine zsub [] rfl ?_
    exact sj_X4_tellFraction_67 g l 
  · refine z_aload_n (j := 0) (q := 52) (by decide +kernel) rfl 0 rfl ?_
    refine z_lload_n (j := 1) (q := 53) (by decide +kernel) rfl 1 rfl ?_
    refine z_lload (j := 5) (q := 55) (by decide +kernel) rfl 3 rfl ?_
    refine z_ldiv (q := 56) (by decide +kernel) rfl ?_
    refine z_putV (q := 59) zp_RX4_49 (fun z => by cases z) rfl rfl (by decide +kernel) rfl ?_
    refine z_aload_n (j := 0) (q := 60) (by decide +kernel) rfl 0 rfl ?_
    refine z_lload_n (j := 3) (q := 61) (by decide +kernel) rfl 2 rfl ?_
    refine z_lload (j := 5) (q := 63) (by decide +kernel) rfl 3 rfl ?_
    refine z_ldiv (q := 64) (by decide +kernel) rfl ?_
    refine z_putV (q := 67) zp_RX4_53 (fun z => by cases z) rfl rfl (by decide +kernel) rfl ?_
    refine zsub [] rfl ?_
    exact sj_X4_tellFraction_67 g l 
def lb_X4_tellFraction_9 (v0 : Nat) (v1 : Int64) (v3 : Int64) (rec : (Int64 × Int64 × Int32) → zAH → Option (Unit × zAH)) (s : Int64 × Int64 × Int32) : zAH → Option (Unit × zAH) := fun h => if s.2.2 < 100 then if (lg_cmp s.2.1 0) = 0 then jn_X4_tellFraction_44 v0 v1 v3 s.1 h else if s.2.1 = 0 then none else rec (s.2.1, s.1 % s.2.1, s.2.2 + 1) h else jn_X4_tellFraction_44 v0 v1 v3 s.1 h
def lp_X4_tellFraction_9 (v0 : Nat) (v1 : Int64) (v3 : Int64) (s : Int64 × Int64 × Int32) : zAH → Option (Unit × zAH) := zlp (lb_X4_tellFraction_9 v0 v1 v3) 2000 s
theorem sl_X4_tellFraction_9 (g : zG) (l : Launch) (v0 : Nat) (v1 : Int64) (v3 : Int64) (s : Int64 × Int64 × Int32) : zSm g l cX4_tellFraction 12 RX4 "tellFraction" none 0 0 zrV 9 [(0, .ref v0), (1, .long v1), (3, .long v3), (5, .long s.1), (7, .long s.2.1), (9, .int s.2.2)] [] (lp_X4_tellFraction_9 v0 v1 v3 s) := by
  unfold lp_X4_tellFraction_9
  refine z_loop (lvf := fun s => [(0, .ref v0), (1, .long v1), (3, .long v3), (5, .long s.1), (7, .long s.2.1), (9, .int s.2.2)]) (fun rec hrec s => ?_) 2000 s
  unfold lb_X4_tellFraction_9
  refine z_iload (j := 9) (q := 11) (by decide +kernel) rfl 5 rfl ?_
  refine z_bipush (n := 100) (v := 100) (q := 13) (by decide +kernel) rfl (by decide) ?_
  refine z_icmp_ge (off := 31) (t := 44) (q := 16) (by decide +kernel) (by decide) rfl ?_ ?_
  · refine zsub [0, 1, 2, 3] rfl ?_
    exact sj_X4_tellFraction_44 g l v0 v1 v3 s.1
  · refine z_lload (j := 7) (q := 18) (by decide +kernel) rfl 4 rfl ?_
    refine z_lconst (n := 0) (v := 0) (q := 19) (by decide +kernel) rfl (by decide) ?_
    refine z_lcmp (q := 20) (by decide +kernel) rfl ?_
    refine z_if_eq (off := 24) (t := 44) (q := 23) (by decide +kernel) (by decide) rfl ?_ ?_
    · refine zsub [0, 1, 2, 3] rfl ?_
      exact sj_X4_tellFraction_44 g l v0 v1 v3 s.1
    · refine z_lload (j := 5) (q := 25) (by decide +kernel) rfl 3 rfl ?_
      refine z_lload (j := 7) (q := 27) (by decide +kernel) rfl 4 rfl ?_
      refine z_lrem (q := 28) (by decide +kernel) rfl ?_
      refine z_lstore (j := 10) (q := 30) (by decide +kernel) rfl (by decide) rfl ?_
      refine z_lload (j := 7) (q := 32) (by decide +kernel) rfl 5 rfl ?_
      refine z_lstore (j := 5) (q := 34) (by decide +kernel) rfl (by decide) rfl ?_
      refine z_lload (j := 10) (q := 36) (by decide +kernel) rfl 1 rfl ?_
      refine z_lstore (j := 7) (q := 38) (by decide +kernel) rfl (by decide) rfl ?_
      refine z_iinc (j := 9) (n := 1) (v := 1) (q := 41) (by decide +kernel) rfl 6 rfl (by decide) (by decide) rfl ?_
      refine z_goto (off := (-32)) (t := 9) (by decide +kernel) (by decide) ?_
      refine zsub [4, 5, 6, 2, 1, 0] rfl ?_
      exact hrec (s.2.1, s.1 % s.2.1, s.2.2 + 1)
def dn_X4_tellFraction (v0 : Nat) (v1 : Int64) (v3 : Int64) : zAH → Option (Unit × zAH) := fun h => (zgO 4 v0 h).bind fun _ => lp_X4_tellFraction_9 v0 v1 v3 (v1, v3, 0) h
theorem ct_X4_tellFraction (g : zG) (l : Launch) (v0 : Nat) (v1 : Int64) (v3 : Int64) : zCt g l yX4_tellFraction cX4_tellFraction 12 none 0 0 zrV [.ref v0, .long v1, .long v3] (dn_X4_tellFraction v0 v1 v3) := by
  refine zCt_of (lv := [(0, .ref v0), (1, .long v1), (3, .long v3)]) (by decide +kernel) (Nat.le_of_ble_eq_true rfl) rfl ?_
  show zSm g l cX4_tellFraction 12 RX4 "tellFraction" none 0 0 zrV 0 [(0, .ref v0), (1, .long v1), (3, .long v3)] [] (dn_X4_tellFraction v0 v1 v3)
  unfold dn_X4_tellFraction
  refine z_rec ?_
  refine z_lload_n (j := 1) (q := 1) (by decide +kernel) rfl 1 rfl ?_
  refine z_lstore (j := 5) (q := 3) (by decide +kernel) rfl (by decide) rfl ?_
  refine z_lload_n (j := 3) (q := 4) (by decide +kernel) rfl 3 rfl ?_
  refine z_lstore (j := 7) (q := 6) (by decide +kernel) rfl (by decide) rfl ?_
  refine z_iconst (n := 0) (v := 0) (q := 7) (by decide +kernel) rfl (by decide) ?_
  refine z_istore (j := 9) (q := 9) (by decide +kernel) rfl (by decide) rfl ?_
  refine zsub [3, 4, 5, 2, 1, 0] rfl ?_
  exact sl_X4_tellFraction_9 g l v0 v1 v3 (v1, v3, 0)
theorem rc_X4_tellFraction (v0 : Nat) (v1 : Int64) (v3 : Int64) : ∀ h x, dn_X4_tellFraction v0 v1 v3 h = some x → ∃ fs, zgO 4 v0 h = some fs := fun h x hd => by
  obtain ⟨fs, e, -⟩ := Option.bind_eq_some_iff.mp hd
  exact ⟨fs, e⟩
def jn_X4_free_18 : zAH → Option (Int32 × zAH) := fun h => some ((-1), h)
theorem sj_X4_free_18 (g : zG) (l : Launch) : zSm g l cX4_free 6 RX4 "free" (some .int) 6 154 zrI 18 [] [] (jn_X4_free_18) := by
  unfold jn_X4_free_18
  refine z_iconst (n := (-1)) (v := (-1)) (q := 19) (by decide +kernel) rfl (by decide) ?_
  exact z_iret (by decide +kernel)
def jn_X4_free_60 (kc31 : (Int32 × Int32) → zAH → Option (Int32 × zAH)) (v0 : Nat) (v1 : Int32) (v2 : Int32) (v3 : Int32) (v4 : Int32) (v5 : Int32) : zAH → Option (Int32 × zAH) := fun h => kc31 (v4, v5 + 1) h
theorem sj_X4_free_60 (g : zG) (l : Launch) (kc31 : (Int32 × Int32) → zAH → Option (Int32 × zAH)) (v0 : Nat) (v1 : Int32) (v2 : Int32) (v3 : Int32) (v4 : Int32) (v5 : Int32) (hkc31 : ∀ s, zSm g l cX4_free 6 RX4 "free" (some .int) 6 154 zrI 31 [(0, .ref v0), (1, .int v1), (2, .int v2), (3, .int v3), (4, .int s.1), (5, .int s.2)] [] (kc31 s)) : zSm g l cX4_free 6 RX4 "free" (some .int) 6 154 zrI 60 [(0, .ref v0), (1, .int v1), (2, .int v2), (3, .int v3), (4, .int v4), (5, .int v5)] [] (jn_X4_free_60 kc31 v0 v1 v2 v3 v4 v5) := by
  unfold jn_X4_free_60
  refine z_iinc (j := 5) (n := 1) (v := 1) (q := 63) (by decide +kernel) rfl 5 rfl (by decide) (by decide) rfl ?_
  refine z_goto (off := (-32)) (t := 31) (by decide +kernel) (by decide) ?_
  refine zsub [1, 2, 3, 4, 5, 0] rfl ?_
  exact hkc31 (v4, v5 + 1)
def jn_X4_free_66 (v0 : Nat) (v3 : Int32) (v4 : Int32) : zAH → Option (Int32 × zAH) := fun h => zbd (dn_X4_tellFraction v0 (Int32.toInt64 v4) (Int32.toInt64 v3) h) fun x1 h2 => some (v4, h2)
theorem sj_X4_free_66 (g : zG) (l : Launch) (v0 : Nat) (v3 : Int32) (v4 : Int32) : zSm g l cX4_free 6 RX4 "free" (some .int) 6 154 zrI 66 [(0, .ref v0), (3, .int v3), (4, .int v4)] [] (jn_X4_free_66 v0 v3 v4) := by
  unfold jn_X4_free_66
  refine z_aload_n (j := 0) (q := 67) (by decide +kernel) rfl 0 rfl ?_
  refine z_iload (j := 4) (q := 69) (by decide +kernel) rfl 2 rfl ?_
  refine z_i2l (q := 70) (by decide +kernel) rfl ?_
  refine z_iload_n (j := 3) (q := 71) (by decide +kernel) rfl 1 rfl ?_
  refine z_i2l (q := 72) (by decide +kernel) rfl ?_
  refine z_callVU (As := [.long (Int32.toInt64 v4), .long (Int32.toInt64 v3)]) (st := []) (q := 75) (ct_X4_tellFraction g l v0 (Int32.toInt64 v4) (Int32.toInt64 v3)) zm_RX4_238 (rc_X4_tellFraction v0 (Int32.toInt64 v4) (Int32.toInt64 v3)) rfl (by decide) (by decide) (Nat.le_of_ble_eq_true rfl) rfl (by decide +kernel) rfl fun x1 => ?_
  refine z_iload (j := 4) (q := 77) (by decide +kernel) rfl 2 rfl ?_
  exact z_iret (by decide +kernel)
def lb_X4_free_31 (v0 : Nat) (v1 : Int32) (v2 : Int32) (v3 : Int32) (rec : (Int32 × Int32) → zAH → Option (Int32 × zAH)) (s : Int32 × Int32) : zAH → Option (Int32 × zAH) := fun h => if s.2 < v3 then zbd (dn_X4_tryChoices v0 v1 ((-1)) v2 s.2 h) fun x1 h2 => (zgA 4 5 v0 h2).bind fun x3 => (zgI 1 3 x3 h2).bind fun x4 => if x4 = v1 then jn_X4_free_60 rec v0 v1 v2 v3 s.1 s.2 h2 else jn_X4_free_60 rec v0 v1 v2 v3 (s.1 + 1) s.2 h2 else jn_X4_free_66 v0 v3 s.1 h
def lp_X4_free_31 (v0 : Nat) (v1 : Int32) (v2 : Int32) (v3 : Int32) (s : Int32 × Int32) : zAH → Option (Int32 × zAH) := zlp (lb_X4_free_31 v0 v1 v2 v3) 2000 s
theorem sl_X4_free_31 (g : zG) (l : Launch) (v0 : Nat) (v1 : Int32) (v2 : Int32) (v3 : Int32) (s : Int32 × Int32) : zSm g l cX4_free 6 RX4 "free" (some .int) 6 154 zrI 31 [(0, .ref v0), (1, .int v1), (2, .int v2), (3, .int v3), (4, .int s.1), (5, .int s.2)] [] (lp_X4_free_31 v0 v1 v2 v3 s) := by
  unfold lp_X4_free_31
  refine z_loop (lvf := fun s => [(0, .ref v0), (1, .int v1), (2, .int v2), (3, .int v3), (4, .int s.1), (5, .int s.2)]) (fun rec hrec s => ?_) 2000 s
  unfold lb_X4_free_31
  refine z_iload (j := 5) (q := 33) (by decide +kernel) rfl 5 rfl ?_
  refine z_iload_n (j := 3) (q := 34) (by decide +kernel) rfl 3 rfl ?_
  refine z_icmp_ge (off := 32) (t := 66) (q := 37) (by decide +kernel) (by decide) rfl ?_ ?_
  · refine zsub [0, 3, 4] rfl ?_
    exact sj_X4_free_66 g l v0 v3 s.1
  · refine z_aload_n (j := 0) (q := 38) (by decide +kernel) rfl 0 rfl ?_
    refine z_iload_n (j := 1) (q := 39) (by decide +kernel) rfl 1 rfl ?_
    refine z_iconst (n := (-1)) (v := (-1)) (q := 40) (by decide +kernel) rfl (by decide) ?_
    refine z_iload_n (j := 2) (q := 41) (by decide +kernel) rfl 2 rfl ?_
    refine z_iload (j := 5) (q := 43) (by decide +kernel) rfl 5 rfl ?_
    refine z_callVU (As := [.int v1, .int ((-1)), .int v2, .int s.2]) (st := []) (q := 46) (ct_X4_tryChoices g l v0 v1 ((-1)) v2 s.2) zm_RX4_234 (rc_X4_tryChoices v0 v1 ((-1)) v2 s.2) rfl (by decide) (by decide) (Nat.le_of_ble_eq_true rfl) rfl (by decide +kernel) rfl fun x1 => ?_
    refine z_aload_n (j := 0) (q := 47) (by decide +kernel) rfl 0 rfl ?_
    refine z_getA (q := 50) zf_RX4_35 (by decide +kernel) rfl fun x3 => ?_
    refine z_getI (q := 53) zf_RX4_208 (by decide +kernel) rfl fun x4 => ?_
    refine z_iload_n (j := 1) (q := 54) (by decide +kernel) rfl 1 rfl ?_
    refine z_icmp_eq (off := 6) (t := 60) (q := 57) (by decide +kernel) (by decide) rfl ?_ ?_
    · refine zsub [0, 1, 2, 3, 4, 5] rfl ?_
      exact sj_X4_free_60 g l rec v0 v1 v2 v3 s.1 s.2 hrec
    · refine z_iinc (j := 4) (n := 1) (v := 1) (q := 60) (by decide +kernel) rfl 4 rfl (by decide) (by decide) rfl ?_
      refine zsub [1, 2, 3, 4, 0, 5] rfl ?_
      exact sj_X4_free_60 g l rec v0 v1 v2 v3 (s.1 + 1) s.2 hrec
def dn_X4_free (v0 : Nat) (v1 : Int32) (v2 : Int32) : zAH → Option (Int32 × zAH) := fun h => (zgO 4 v0 h).bind fun _ => zbd (dn_X4_isRunner v0 v1 h) fun x1 h2 => if x1 = 0 then jn_X4_free_18 h2 else if v2 < 1 then jn_X4_free_18 h2 else if 4 < v2 then jn_X4_free_18 h2 else zbd (dn_X4_powerOfFour v2 h2) fun x3 h4 => lp_X4_free_31 v0 v1 v2 x3 (0, 0) h4
theorem ct_X4_free (g : zG) (l : Launch) (v0 : Nat) (v1 : Int32) (v2 : Int32) : zCt g l yX4_free cX4_free 6 (some .int) 6 154 zrI [.ref v0, .int v1, .int v2] (dn_X4_free v0 v1 v2) := by
  refine zCt_of (lv := [(0, .ref v0), (1, .int v1), (2, .int v2)]) (by decide +kernel) (Nat.le_of_ble_eq_true rfl) rfl ?_
  show zSm g l cX4_free 6 RX4 "free" (some .int) 6 154 zrI 0 [(0, .ref v0), (1, .int v1), (2, .int v2)] [] (dn_X4_free v0 v1 v2)
  unfold dn_X4_free
  refine z_rec ?_
  refine z_aload_n (j := 0) (q := 1) (by decide +kernel) rfl 0 rfl ?_
  refine z_iload_n (j := 1) (q := 2) (by decide +kernel) rfl 1 rfl ?_
  refine z_callVI (As := [.int v1]) (st := []) (q := 5) (ct_X4_isRunner g l v0 v1) zm_RX4_166 (rc_X4_isRunner v0 v1) rfl (by decide) (by decide) (Nat.le_of_ble_eq_true rfl) rfl (by decide +kernel) rfl fun x1 => ?_
  refine z_if_eq (off := 13) (t := 18) (q := 8) (by decide +kernel) (by decide) rfl ?_ ?_
  · refine zsub [] rfl ?_
    exact sj_X4_free_18 g l 
  · refine z_iload_n (j := 2) (q := 9) (by decide +kernel) rfl 2 rfl ?_
    refine z_iconst (n := 1) (v := 1) (q := 10) (by decide +kernel) rfl (by decide) ?_
    refine z_icmp_lt (off := 8) (t := 18) (q := 13) (by decide +kernel) (by decide) rfl ?_ ?_
    · refine zsub [] rfl ?_
      exact sj_X4_free_18 g l 
    · refine z_iload_n (j := 2) (q := 14) (by decide +kernel) rfl 2 rfl ?_
      refine z_iconst (n := 4) (v := 4) (q := 15) (by decide +kernel) rfl (by decide) ?_
      refine z_icmp_le (off := 5) (t := 20) (q := 18) (by decide +kernel) (by decide) rfl ?_ ?_
      · refine z_iload_n (j := 2) (q := 21) (by decide +kernel) rfl 2 rfl ?_
        refine z_callSI (As := [.int v2]) (st := []) (q := 24) (ct_X4_powerOfFour g l v2) zm_RX4_231 rfl (by decide) (by decide) (Nat.le_of_ble_eq_true rfl) rfl (by decide +kernel) rfl fun x3 => ?_
        refine z_istore_n (j := 3) (q := 25) (by decide +kernel) rfl (by decide) rfl ?_
        refine z_iconst (n := 0) (v := 0) (q := 26) (by decide +kernel) rfl (by decide) ?_
        refine z_istore (j := 4) (q := 28) (by decide +kernel) rfl (by decide) rfl ?_
        refine z_iconst (n := 0) (v := 0) (q := 29) (by decide +kernel) rfl (by decide) ?_
        refine z_istore (j := 5) (q := 31) (by decide +kernel) rfl (by decide) rfl ?_
        refine zsub [3, 4, 5, 2, 1, 0] rfl ?_
        exact sl_X4_free_31 g l v0 v1 v2 x3 (0, 0)
      · refine zsub [] rfl ?_
        exact sj_X4_free_18 g l 
theorem rc_X4_free (v0 : Nat) (v1 : Int32) (v2 : Int32) : ∀ h x, dn_X4_free v0 v1 v2 h = some x → ∃ fs, zgO 4 v0 h = some fs := fun h x hd => by
  obtain ⟨fs, e, -⟩ := Option.bind_eq_some_iff.mp hd
  exact ⟨fs, e⟩
def jn_X4_placeOfLeast_30 (kc4 : (Int32 × Int32) → zAH → Option (Int32 × zAH)) (v0 : Nat) (v1 : Int32) (v2 : Int32) (v3 : Int32) : zAH → Option (Int32 × zAH) := fun h => kc4 (v2, v3 + 1) h
theorem sj_X4_placeOfLeast_30 (g : zG) (l : Launch) (kc4 : (Int32 × Int32) → zAH → Option (Int32 × zAH)) (v0 : Nat) (v1 : Int32) (v2 : Int32) (v3 : Int32) (hkc4 : ∀ s, zSm g l cX4_placeOfLeast 4 RX4 "placeOfLeast" (some .int) 0 0 zrI 4 [(0, .ref v0), (1, .int v1), (2, .int s.1), (3, .int s.2)] [] (kc4 s)) : zSm g l cX4_placeOfLeast 4 RX4 "placeOfLeast" (some .int) 0 0 zrI 30 [(0, .ref v0), (1, .int v1), (2, .int v2), (3, .int v3)] [] (jn_X4_placeOfLeast_30 kc4 v0 v1 v2 v3) := by
  unfold jn_X4_placeOfLeast_30
  refine z_iinc (j := 3) (n := 1) (v := 1) (q := 33) (by decide +kernel) rfl 3 rfl (by decide) (by decide) rfl ?_
  refine z_goto (off := (-29)) (t := 4) (by decide +kernel) (by decide) ?_
  refine zsub [1, 2, 3, 0] rfl ?_
  exact hkc4 (v2, v3 + 1)
def jn_X4_placeOfLeast_36 (v2 : Int32) : zAH → Option (Int32 × zAH) := fun h => some (v2, h)
theorem sj_X4_placeOfLeast_36 (g : zG) (l : Launch) (v2 : Int32) : zSm g l cX4_placeOfLeast 4 RX4 "placeOfLeast" (some .int) 0 0 zrI 36 [(2, .int v2)] [] (jn_X4_placeOfLeast_36 v2) := by
  unfold jn_X4_placeOfLeast_36
  refine z_iload_n (j := 2) (q := 37) (by decide +kernel) rfl 0 rfl ?_
  exact z_iret (by decide +kernel)
def lb_X4_placeOfLeast_4 (v0 : Nat) (v1 : Int32) (rec : (Int32 × Int32) → zAH → Option (Int32 × zAH)) (s : Int32 × Int32) : zAH → Option (Int32 × zAH) := fun h => if s.2 < 4 then (zgA 4 17 v0 h).bind fun x1 => (zaI 0 x1 (v1 + s.2) h).bind fun x2 => (zgA 4 17 v0 h).bind fun x3 => (zaI 0 x3 (v1 + s.1) h).bind fun x4 => if x2 < x4 then jn_X4_placeOfLeast_30 rec v0 v1 s.2 s.2 h else jn_X4_placeOfLeast_30 rec v0 v1 s.1 s.2 h else jn_X4_placeOfLeast_36 s.1 h
def lp_X4_placeOfLeast_4 (v0 : Nat) (v1 : Int32) (s : Int32 × Int32) : zAH → Option (Int32 × zAH) := zlp (lb_X4_placeOfLeast_4 v0 v1) 2000 s
theorem sl_X4_placeOfLeast_4 (g : zG) (l : Launch) (v0 : Nat) (v1 : Int32) (s : Int32 × Int32) : zSm g l cX4_placeOfLeast 4 RX4 "placeOfLeast" (some .int) 0 0 zrI 4 [(0, .ref v0), (1, .int v1), (2, .int s.1), (3, .int s.2)] [] (lp_X4_placeOfLeast_4 v0 v1 s) := by
  unfold lp_X4_placeOfLeast_4
  refine z_loop (lvf := fun s => [(0, .ref v0), (1, .int v1), (2, .int s.1), (3, .int s.2)]) (fun rec hrec s => ?_) 2000 s
  unfold lb_X4_placeOfLeast_4
  refine z_iload_n (j := 3) (q := 5) (by decide +kernel) rfl 3 rfl ?_
  refine z_iconst (n := 4) (v := 4) (q := 6) (by decide +kernel) rfl (by decide) ?_
  refine z_icmp_ge (off := 30) (t := 36) (q := 9) (by decide +kernel) (by decide) rfl ?_ ?_
  · refine zsub [2] rfl ?_
    exact sj_X4_placeOfLeast_36 g l s.1
  · refine z_aload_n (j := 0) (q := 10) (by decide +kernel) rfl 0 rfl ?_
    refine z_getA (q := 13) zf_RX4_75 (by decide +kernel) rfl fun x1 => ?_
    refine z_iload_n (j := 1) (q := 14) (by decide +kernel) rfl 1 rfl ?_
    refine z_iload_n (j := 3) (q := 15) (by decide +kernel) rfl 3 rfl ?_
    refine z_iadd (q := 16) (by decide +kernel) rfl ?_
    refine z_iald (q := 17) (Or.inl ⟨rfl, rfl⟩) (by decide +kernel) rfl fun x2 => ?_
    refine z_aload_n (j := 0) (q := 18) (by decide +kernel) rfl 0 rfl ?_
    refine z_getA (q := 21) zf_RX4_75 (by decide +kernel) rfl fun x3 => ?_
    refine z_iload_n (j := 1) (q := 22) (by decide +kernel) rfl 1 rfl ?_
    refine z_iload_n (j := 2) (q := 23) (by decide +kernel) rfl 2 rfl ?_
    refine z_iadd (q := 24) (by decide +kernel) rfl ?_
    refine z_iald (q := 25) (Or.inl ⟨rfl, rfl⟩) (by decide +kernel) rfl fun x4 => ?_
    refine z_icmp_ge (off := 5) (t := 30) (q := 28) (by decide +kernel) (by decide) rfl ?_ ?_
    · refine zsub [0, 1, 2, 3] rfl ?_
      exact sj_X4_placeOfLeast_30 g l rec v0 v1 s.1 s.2 hrec
    · refine z_iload_n (j := 3) (q := 29) (by decide +kernel) rfl 3 rfl ?_
      refine z_istore_n (j := 2) (q := 30) (by decide +kernel) rfl (by decide) rfl ?_
      refine zsub [1, 2, 0, 3] rfl ?_
      exact sj_X4_placeOfLeast_30 g l rec v0 v1 s.2 s.2 hrec
def dn_X4_placeOfLeast (v0 : Nat) (v1 : Int32) : zAH → Option (Int32 × zAH) := fun h => (zgO 4 v0 h).bind fun _ => lp_X4_placeOfLeast_4 v0 v1 (0, 1) h
theorem ct_X4_placeOfLeast (g : zG) (l : Launch) (v0 : Nat) (v1 : Int32) : zCt g l yX4_placeOfLeast cX4_placeOfLeast 4 (some .int) 0 0 zrI [.ref v0, .int v1] (dn_X4_placeOfLeast v0 v1) := by
  refine zCt_of (lv := [(0, .ref v0), (1, .int v1)]) (by decide +kernel) (Nat.le_of_ble_eq_true rfl) rfl ?_
  show zSm g l cX4_placeOfLeast 4 RX4 "placeOfLeast" (some .int) 0 0 zrI 0 [(0, .ref v0), (1, .int v1)] [] (dn_X4_placeOfLeast v0 v1)
  unfold dn_X4_placeOfLeast
  refine z_rec ?_
  refine z_iconst (n := 0) (v := 0) (q := 1) (by decide +kernel) rfl (by decide) ?_
  refine z_istore_n (j := 2) (q := 2) (by decide +kernel) rfl (by decide) rfl ?_
  refine z_iconst (n := 1) (v := 1) (q := 3) (by decide +kernel) rfl (by decide) ?_
  refine z_istore_n (j := 3) (q := 4) (by decide +kernel) rfl (by decide) rfl ?_
  refine zsub [2, 3, 1, 0] rfl ?_
  exact sl_X4_placeOfLeast_4 g l v0 v1 (0, 1)
theorem rc_X4_placeOfLeast (v0 : Nat) (v1 : Int32) : ∀ h x, dn_X4_placeOfLeast v0 v1 h = some x → ∃ fs, zgO 4 v0 h = some fs := fun h x hd => by
  obtain ⟨fs, e, -⟩ := Option.bind_eq_some_iff.mp hd
  exact ⟨fs, e⟩
def jn_X4_placeOfMost_30 (kc4 : (Int32 × Int32) → zAH → Option (Int32 × zAH)) (v0 : Nat) (v1 : Int32) (v2 : Int32) (v3 : Int32) : zAH → Option (Int32 × zAH) := fun h => kc4 (v2, v3 + 1) h
theorem sj_X4_placeOfMost_30 (g : zG) (l : Launch) (kc4 : (Int32 × Int32) → zAH → Option (Int32 × zAH)) (v0 : Nat) (v1 : Int32) (v2 : Int32) (v3 : Int32) (hkc4 : ∀ s, zSm g l cX4_placeOfMost 4 RX4 "placeOfMost" (some .int) 0 0 zrI 4 [(0, .ref v0), (1, .int v1), (2, .int s.1), (3, .int s.2)] [] (kc4 s)) : zSm g l cX4_placeOfMost 4 RX4 "placeOfMost" (some .int) 0 0 zrI 30 [(0, .ref v0), (1, .int v1), (2, .int v2), (3, .int v3)] [] (jn_X4_placeOfMost_30 kc4 v0 v1 v2 v3) := by
  unfold jn_X4_placeOfMost_30
  refine z_iinc (j := 3) (n := 1) (v := 1) (q := 33) (by decide +kernel) rfl 3 rfl (by decide) (by decide) rfl ?_
  refine z_goto (off := (-29)) (t := 4) (by decide +kernel) (by decide) ?_
  refine zsub [1, 2, 3, 0] rfl ?_
  exact hkc4 (v2, v3 + 1)
def jn_X4_placeOfMost_36 (v2 : Int32) : zAH → Option (Int32 × zAH) := fun h => some (v2, h)
theorem sj_X4_placeOfMost_36 (g : zG) (l : Launch) (v2 : Int32) : zSm g l cX4_placeOfMost 4 RX4 "placeOfMost" (some .int) 0 0 zrI 36 [(2, .int v2)] [] (jn_X4_placeOfMost_36 v2) := by
  unfold jn_X4_placeOfMost_36
  refine z_iload_n (j := 2) (q := 37) (by decide +kernel) rfl 0 rfl ?_
  exact z_iret (by decide +kernel)
def lb_X4_placeOfMost_4 (v0 : Nat) (v1 : Int32) (rec : (Int32 × Int32) → zAH → Option (Int32 × zAH)) (s : Int32 × Int32) : zAH → Option (Int32 × zAH) := fun h => if s.2 < 4 then (zgA 4 17 v0 h).bind fun x1 => (zaI 0 x1 (v1 + s.2) h).bind fun x2 => (zgA 4 17 v0 h).bind fun x3 => (zaI 0 x3 (v1 + s.1) h).bind fun x4 => if x4 < x2 then jn_X4_placeOfMost_30 rec v0 v1 s.2 s.2 h else jn_X4_placeOfMost_30 rec v0 v1 s.1 s.2 h else jn_X4_placeOfMost_36 s.1 h
def lp_X4_placeOfMost_4 (v0 : Nat) (v1 : Int32) (s : Int32 × Int32) : zAH → Option (Int32 × zAH) := zlp (lb_X4_placeOfMost_4 v0 v1) 2000 s
theorem sl_X4_placeOfMost_4 (g : zG) (l : Launch) (v0 : Nat) (v1 : Int32) (s : Int32 × Int32) : zSm g l cX4_placeOfMost 4 RX4 "placeOfMost" (some .int) 0 0 zrI 4 [(0, .ref v0), (1, .int v1), (2, .int s.1), (3, .int s.2)] [] (lp_X4_placeOfMost_4 v0 v1 s) := by
  unfold lp_X4_placeOfMost_4
  refine z_loop (lvf := fun s => [(0, .ref v0), (1, .int v1), (2, .int s.1), (3, .int s.2)]) (fun rec hrec s => ?_) 2000 s
  unfold lb_X4_placeOfMost_4
  refine z_iload_n (j := 3) (q := 5) (by decide +kernel) rfl 3 rfl ?_
  refine z_iconst (n := 4) (v := 4) (q := 6) (by decide +kernel) rfl (by decide) ?_
  refine z_icmp_ge (off := 30) (t := 36) (q := 9) (by decide +kernel) (by decide) rfl ?_ ?_
  · refine zsub [2] rfl ?_
    exact sj_X4_placeOfMost_36 g l s.1
  · refine z_aload_n (j := 0) (q := 10) (by decide +kernel) rfl 0 rfl ?_
    refine z_getA (q := 13) zf_RX4_75 (by decide +kernel) rfl fun x1 => ?_
    refine z_iload_n (j := 1) (q := 14) (by decide +kernel) rfl 1 rfl ?_
    refine z_iload_n (j := 3) (q := 15) (by decide +kernel) rfl 3 rfl ?_
    refine z_iadd (q := 16) (by decide +kernel) rfl ?_
    refine z_iald (q := 17) (Or.inl ⟨rfl, rfl⟩) (by decide +kernel) rfl fun x2 => ?_
    refine z_aload_n (j := 0) (q := 18) (by decide +kernel) rfl 0 rfl ?_
    refine z_getA (q := 21) zf_RX4_75 (by decide +kernel) rfl fun x3 => ?_
    refine z_iload_n (j := 1) (q := 22) (by decide +kernel) rfl 1 rfl ?_
    refine z_iload_n (j := 2) (q := 23) (by decide +kernel) rfl 2 rfl ?_
    refine z_iadd (q := 24) (by decide +kernel) rfl ?_
    refine z_iald (q := 25) (Or.inl ⟨rfl, rfl⟩) (by decide +kernel) rfl fun x4 => ?_
    refine z_icmp_le (off := 5) (t := 30) (q := 28) (by decide +kernel) (by decide) rfl ?_ ?_
    · refine zsub [0, 1, 2, 3] rfl ?_
      exact sj_X4_placeOfMost_30 g l rec v0 v1 s.1 s.2 hrec
    · refine z_iload_n (j := 3) (q := 29) (by decide +kernel) rfl 3 rfl ?_
      refine z_istore_n (j := 2) (q := 30) (by decide +kernel) rfl (by decide) rfl ?_
      refine zsub [1, 2, 0, 3] rfl ?_
      exact sj_X4_placeOfMost_30 g l rec v0 v1 s.2 s.2 hrec
def dn_X4_placeOfMost (v0 : Nat) (v1 : Int32) : zAH → Option (Int32 × zAH) := fun h => (zgO 4 v0 h).bind fun _ => lp_X4_placeOfMost_4 v0 v1 (0, 1) h
theorem ct_X4_placeOfMost (g : zG) (l : Launch) (v0 : Nat) (v1 : Int32) : zCt g l yX4_placeOfMost cX4_placeOfMost 4 (some .int) 0 0 zrI [.ref v0, .int v1] (dn_X4_placeOfMost v0 v1) := by
  refine zCt_of (lv := [(0, .ref v0), (1, .int v1)]) (by decide +kernel) (Nat.le_of_ble_eq_true rfl) rfl ?_
  show zSm g l cX4_placeOfMost 4 RX4 "placeOfMost" (some .int) 0 0 zrI 0 [(0, .ref v0), (1, .int v1)] [] (dn_X4_placeOfMost v0 v1)
  unfold dn_X4_placeOfMost
  refine z_rec ?_
  refine z_iconst (n := 0) (v := 0) (q := 1) (by decide +kernel) rfl (by decide) ?_
  refine z_istore_n (j := 2) (q := 2) (by decide +kernel) rfl (by decide) rfl ?_
  refine z_iconst (n := 1) (v := 1) (q := 3) (by decide +kernel) rfl (by decide) ?_
  refine z_istore_n (j := 3) (q := 4) (by decide +kernel) rfl (by decide) rfl ?_
  refine zsub [2, 3, 1, 0] rfl ?_
  exact sl_X4_placeOfMost_4 g l v0 v1 (0, 1)
theorem rc_X4_placeOfMost (v0 : Nat) (v1 : Int32) : ∀ h x, dn_X4_placeOfMost v0 v1 h = some x → ∃ fs, zgO 4 v0 h = some fs := fun h x hd => by
  obtain ⟨fs, e, -⟩ := Option.bind_eq_some_iff.mp hd
  exact ⟨fs, e⟩
def jn_X4_settleDuel_97 (kc5 : (Int32 × Int32) → zAH → Option (Int32 × zAH)) (v0 : Nat) (v2 : Int32) (v3 : Int32) : zAH → Option (Int32 × zAH) := fun h => if 16 = 0 then none else kc5 (v2, v3 / 16) h
theorem sj_X4_settleDuel_97 (g : zG) (l : Launch) (kc5 : (Int32 × Int32) → zAH → Option (Int32 × zAH)) (v0 : Nat) (v2 : Int32) (v3 : Int32) (hkc5 : ∀ s, zSm g l cX4_settleDuel 5 RX4 "settleDuel" (some .int) 1 23 zrI 5 [(0, .ref v0), (2, .int s.1), (3, .int s.2)] [] (kc5 s)) : zSm g l cX4_settleDuel 5 RX4 "settleDuel" (some .int) 1 23 zrI 97 [(0, .ref v0), (2, .int v2), (3, .int v3)] [] (jn_X4_settleDuel_97 kc5 v0 v2 v3) := by
  unfold jn_X4_settleDuel_97
  refine z_iload_n (j := 3) (q := 98) (by decide +kernel) rfl 2 rfl ?_
  refine z_bipush (n := 16) (v := 16) (q := 100) (by decide +kernel) rfl (by decide) ?_
  refine z_idiv (q := 101) (by decide +kernel) rfl ?_
  refine z_istore_n (j := 3) (q := 102) (by decide +kernel) rfl (by decide) rfl ?_
  refine z_goto (off := (-97)) (t := 5) (by decide +kernel) (by decide) ?_
  refine zsub [1, 2, 0] rfl ?_
  exact hkc5 (v2, v3 / 16)
def lb_X4_settleDuel_55 (kc5 : (Int32 × Int32) → zAH → Option (Int32 × zAH)) (v0 : Nat) (v3 : Int32) (rec : (Int32 × Int32) → zAH → Option (Int32 × zAH)) (s : Int32 × Int32) : zAH → Option (Int32 × zAH) := fun h => if 16 = 0 then none else if s.2 < (v3 / 16) then zbd (dn_X4_placeOfMost v0 (4 * s.2) h) fun x1 h2 => (zgA 4 17 v0 h2).bind fun x3 => (zgA 4 17 v0 h2).bind fun x4 => (zaI 0 x4 ((4 * s.2) + x1) h2).bind fun x5 => (zaS 0 x3 s.2 x5 h2).bind fun h6 => rec (x1, s.2 + 1) h6 else jn_X4_settleDuel_97 kc5 v0 s.1 v3 h
def lp_X4_settleDuel_55 (kc5 : (Int32 × Int32) → zAH → Option (Int32 × zAH)) (v0 : Nat) (v3 : Int32) (s : Int32 × Int32) : zAH → Option (Int32 × zAH) := zlp (lb_X4_settleDuel_55 kc5 v0 v3) 2000 s
theorem sl_X4_settleDuel_55 (g : zG) (l : Launch) (kc5 : (Int32 × Int32) → zAH → Option (Int32 × zAH)) (v0 : Nat) (v3 : Int32) (hkc5 : ∀ s, zSm g l cX4_settleDuel 5 RX4 "settleDuel" (some .int) 1 23 zrI 5 [(0, .ref v0), (2, .int s.1), (3, .int s.2)] [] (kc5 s)) (s : Int32 × Int32) : zSm g l cX4_settleDuel 5 RX4 "settleDuel" (some .int) 1 23 zrI 55 [(0, .ref v0), (2, .int s.1), (3, .int v3), (4, .int s.2)] [] (lp_X4_settleDuel_55 kc5 v0 v3 s) := by
  unfold lp_X4_settleDuel_55
  refine z_loop (lvf := fun s => [(0, .ref v0), (2, .int s.1), (3, .int v3), (4, .int s.2)]) (fun rec hrec s => ?_) 2000 s
  unfold lb_X4_settleDuel_55
  refine z_iload (j := 4) (q := 57) (by decide +kernel) rfl 3 rfl ?_
  refine z_iload_n (j := 3) (q := 58) (by decide +kernel) rfl 2 rfl ?_
  refine z_bipush (n := 16) (v := 16) (q := 60) (by decide +kernel) rfl (by decide) ?_
  refine z_idiv (q := 61) (by decide +kernel) rfl ?_
  refine z_icmp_ge (off := 36) (t := 97) (q := 64) (by decide +kernel) (by decide) rfl ?_ ?_
  · refine zsub [0, 1, 2] rfl ?_
    exact sj_X4_settleDuel_97 g l kc5 v0 s.1 v3 hkc5
  · refine z_aload_n (j := 0) (q := 65) (by decide +kernel) rfl 0 rfl ?_
    refine z_iconst (n := 4) (v := 4) (q := 66) (by decide +kernel) rfl (by decide) ?_
    refine z_iload (j := 4) (q := 68) (by decide +kernel) rfl 3 rfl ?_
    refine z_imul (q := 69) (by decide +kernel) rfl ?_
    refine z_callVI (As := [.int (4 * s.2)]) (st := []) (q := 72) (ct_X4_placeOfMost g l v0 (4 * s.2)) zm_RX4_325 (rc_X4_placeOfMost v0 (4 * s.2)) rfl (by decide) (by decide) (Nat.le_of_ble_eq_true rfl) rfl (by decide +kernel) rfl fun x1 => ?_
    refine z_istore_n (j := 2) (q := 73) (by decide +kernel) rfl (by decide) rfl ?_
    refine z_aload_n (j := 0) (q := 74) (by decide +kernel) rfl 1 rfl ?_
    refine z_getA (q := 77) zf_RX4_75 (by decide +kernel) rfl fun x3 => ?_
    refine z_iload (j := 4) (q := 79) (by decide +kernel) rfl 3 rfl ?_
    refine z_aload_n (j := 0) (q := 80) (by decide +kernel) rfl 1 rfl ?_
    refine z_getA (q := 83) zf_RX4_75 (by decide +kernel) rfl fun x4 => ?_
    refine z_iconst (n := 4) (v := 4) (q := 84) (by decide +kernel) rfl (by decide) ?_
    refine z_iload (j := 4) (q := 86) (by decide +kernel) rfl 3 rfl ?_
    refine z_imul (q := 87) (by decide +kernel) rfl ?_
    refine z_iload_n (j := 2) (q := 88) (by decide +kernel) rfl 0 rfl ?_
    refine z_iadd (q := 89) (by decide +kernel) rfl ?_
    refine z_iald (q := 90) (Or.inl ⟨rfl, rfl⟩) (by decide +kernel) rfl fun x5 => ?_
    refine z_iast (q := 91) (Or.inl ⟨rfl, rfl, rfl⟩) (by decide +kernel) rfl ?_
    refine z_iinc (j := 4) (n := 1) (v := 1) (q := 94) (by decide +kernel) rfl 3 rfl (by decide) (by decide) rfl ?_
    refine z_goto (off := (-39)) (t := 55) (by decide +kernel) (by decide) ?_
    refine zsub [2, 1, 3, 0] rfl ?_
    exact hrec (x1, s.2 + 1)
def jn_X4_settleDuel_52 (kc5 : (Int32 × Int32) → zAH → Option (Int32 × zAH)) (v0 : Nat) (v2 : Int32) (v3 : Int32) : zAH → Option (Int32 × zAH) := fun h => lp_X4_settleDuel_55 kc5 v0 v3 (v2, 0) h
theorem sj_X4_settleDuel_52 (g : zG) (l : Launch) (kc5 : (Int32 × Int32) → zAH → Option (Int32 × zAH)) (v0 : Nat) (v2 : Int32) (v3 : Int32) (hkc5 : ∀ s, zSm g l cX4_settleDuel 5 RX4 "settleDuel" (some .int) 1 23 zrI 5 [(0, .ref v0), (2, .int s.1), (3, .int s.2)] [] (kc5 s)) : zSm g l cX4_settleDuel 5 RX4 "settleDuel" (some .int) 1 23 zrI 52 [(0, .ref v0), (2, .int v2), (3, .int v3)] [] (jn_X4_settleDuel_52 kc5 v0 v2 v3) := by
  unfold jn_X4_settleDuel_52
  refine z_iconst (n := 0) (v := 0) (q := 53) (by decide +kernel) rfl (by decide) ?_
  refine z_istore (j := 4) (q := 55) (by decide +kernel) rfl (by decide) rfl ?_
  refine zsub [1, 2, 3, 0] rfl ?_
  exact sl_X4_settleDuel_55 g l kc5 v0 v3 hkc5 (v2, 0)
def lb_X4_settleDuel_13 (kc5 : (Int32 × Int32) → zAH → Option (Int32 × zAH)) (v0 : Nat) (v2 : Int32) (v3 : Int32) (rec : (Int32) → zAH → Option (Int32 × zAH)) (s : Int32) : zAH → Option (Int32 × zAH) := fun h => if 4 = 0 then none else if s < (v3 / 4) then (zgA 4 17 v0 h).bind fun x1 => (zgA 4 17 v0 h).bind fun x2 => zbd (dn_X4_placeOfLeast v0 (4 * s) h) fun x3 h4 => (zaI 0 x2 ((4 * s) + x3) h4).bind fun x5 => (zaS 0 x1 s x5 h4).bind fun h6 => rec (s + 1) h6 else jn_X4_settleDuel_52 kc5 v0 v2 v3 h
def lp_X4_settleDuel_13 (kc5 : (Int32 × Int32) → zAH → Option (Int32 × zAH)) (v0 : Nat) (v2 : Int32) (v3 : Int32) (s : Int32) : zAH → Option (Int32 × zAH) := zlp (lb_X4_settleDuel_13 kc5 v0 v2 v3) 2000 s
theorem sl_X4_settleDuel_13 (g : zG) (l : Launch) (kc5 : (Int32 × Int32) → zAH → Option (Int32 × zAH)) (v0 : Nat) (v2 : Int32) (v3 : Int32) (hkc5 : ∀ s, zSm g l cX4_settleDuel 5 RX4 "settleDuel" (some .int) 1 23 zrI 5 [(0, .ref v0), (2, .int s.1), (3, .int s.2)] [] (kc5 s)) (s : Int32) : zSm g l cX4_settleDuel 5 RX4 "settleDuel" (some .int) 1 23 zrI 13 [(0, .ref v0), (2, .int v2), (3, .int v3), (4, .int s)] [] (lp_X4_settleDuel_13 kc5 v0 v2 v3 s) := by
  unfold lp_X4_settleDuel_13
  refine z_loop (lvf := fun s => [(0, .ref v0), (2, .int v2), (3, .int v3), (4, .int s)]) (fun rec hrec s => ?_) 2000 s
  unfold lb_X4_settleDuel_13
  refine z_iload (j := 4) (q := 15) (by decide +kernel) rfl 3 rfl ?_
  refine z_iload_n (j := 3) (q := 16) (by decide +kernel) rfl 2 rfl ?_
  refine z_iconst (n := 4) (v := 4) (q := 17) (by decide +kernel) rfl (by decide) ?_
  refine z_idiv (q := 18) (by decide +kernel) rfl ?_
  refine z_icmp_ge (off := 34) (t := 52) (q := 21) (by decide +kernel) (by decide) rfl ?_ ?_
  · refine zsub [0, 1, 2] rfl ?_
    exact sj_X4_settleDuel_52 g l kc5 v0 v2 v3 hkc5
  · refine z_aload_n (j := 0) (q := 22) (by decide +kernel) rfl 0 rfl ?_
    refine z_getA (q := 25) zf_RX4_75 (by decide +kernel) rfl fun x1 => ?_
    refine z_iload (j := 4) (q := 27) (by decide +kernel) rfl 3 rfl ?_
    refine z_aload_n (j := 0) (q := 28) (by decide +kernel) rfl 0 rfl ?_
    refine z_getA (q := 31) zf_RX4_75 (by decide +kernel) rfl fun x2 => ?_
    refine z_iconst (n := 4) (v := 4) (q := 32) (by decide +kernel) rfl (by decide) ?_
    refine z_iload (j := 4) (q := 34) (by decide +kernel) rfl 3 rfl ?_
    refine z_imul (q := 35) (by decide +kernel) rfl ?_
    refine z_aload_n (j := 0) (q := 36) (by decide +kernel) rfl 0 rfl ?_
    refine z_iconst (n := 4) (v := 4) (q := 37) (by decide +kernel) rfl (by decide) ?_
    refine z_iload (j := 4) (q := 39) (by decide +kernel) rfl 3 rfl ?_
    refine z_imul (q := 40) (by decide +kernel) rfl ?_
    refine z_callVI (As := [.int (4 * s)]) (st := [.int (4 * s), .ref x2, .int s, .ref x1]) (q := 43) (ct_X4_placeOfLeast g l v0 (4 * s)) zm_RX4_322 (rc_X4_placeOfLeast v0 (4 * s)) rfl (by decide) (by decide) (Nat.le_of_ble_eq_true rfl) rfl (by decide +kernel) rfl fun x3 => ?_
    refine z_iadd (q := 44) (by decide +kernel) rfl ?_
    refine z_iald (q := 45) (Or.inl ⟨rfl, rfl⟩) (by decide +kernel) rfl fun x5 => ?_
    refine z_iast (q := 46) (Or.inl ⟨rfl, rfl, rfl⟩) (by decide +kernel) rfl ?_
    refine z_iinc (j := 4) (n := 1) (v := 1) (q := 49) (by decide +kernel) rfl 3 rfl (by decide) (by decide) rfl ?_
    refine z_goto (off := (-36)) (t := 13) (by decide +kernel) (by decide) ?_
    refine zsub [1, 2, 3, 0] rfl ?_
    exact hrec (s + 1)
def jn_X4_settleDuel_105 (v2 : Int32) : zAH → Option (Int32 × zAH) := fun h => some (v2, h)
theorem sj_X4_settleDuel_105 (g : zG) (l : Launch) (v2 : Int32) : zSm g l cX4_settleDuel 5 RX4 "settleDuel" (some .int) 1 23 zrI 105 [(2, .int v2)] [] (jn_X4_settleDuel_105 v2) := by
  unfold jn_X4_settleDuel_105
  refine z_iload_n (j := 2) (q := 106) (by decide +kernel) rfl 0 rfl ?_
  exact z_iret (by decide +kernel)
def lb_X4_settleDuel_5 (v0 : Nat) (rec : (Int32 × Int32) → zAH → Option (Int32 × zAH)) (s : Int32 × Int32) : zAH → Option (Int32 × zAH) := fun h => if 1 < s.2 then lp_X4_settleDuel_13 rec v0 s.1 s.2 0 h else jn_X4_settleDuel_105 s.1 h
def lp_X4_settleDuel_5 (v0 : Nat) (s : Int32 × Int32) : zAH → Option (Int32 × zAH) := zlp (lb_X4_settleDuel_5 v0) 2000 s
theorem sl_X4_settleDuel_5 (g : zG) (l : Launch) (v0 : Nat) (s : Int32 × Int32) : zSm g l cX4_settleDuel 5 RX4 "settleDuel" (some .int) 1 23 zrI 5 [(0, .ref v0), (2, .int s.1), (3, .int s.2)] [] (lp_X4_settleDuel_5 v0 s) := by
  unfold lp_X4_settleDuel_5
  refine z_loop (lvf := fun s => [(0, .ref v0), (2, .int s.1), (3, .int s.2)]) (fun rec hrec s => ?_) 2000 s
  unfold lb_X4_settleDuel_5
  refine z_iload_n (j := 3) (q := 6) (by decide +kernel) rfl 2 rfl ?_
  refine z_iconst (n := 1) (v := 1) (q := 7) (by decide +kernel) rfl (by decide) ?_
  refine z_icmp_le (off := 98) (t := 105) (q := 10) (by decide +kernel) (by decide) rfl ?_ ?_
  · refine zsub [1] rfl ?_
    exact sj_X4_settleDuel_105 g l s.1
  · refine z_iconst (n := 0) (v := 0) (q := 11) (by decide +kernel) rfl (by decide) ?_
    refine z_istore (j := 4) (q := 13) (by decide +kernel) rfl (by decide) rfl ?_
    refine zsub [1, 2, 3, 0] rfl ?_
    exact sl_X4_settleDuel_13 g l rec v0 s.1 s.2 hrec 0
def dn_X4_settleDuel (v0 : Nat) (v1 : Int32) : zAH → Option (Int32 × zAH) := fun h => (zgO 4 v0 h).bind fun _ => lp_X4_settleDuel_5 v0 ((-9), v1) h
theorem ct_X4_settleDuel (g : zG) (l : Launch) (v0 : Nat) (v1 : Int32) : zCt g l yX4_settleDuel cX4_settleDuel 5 (some .int) 1 23 zrI [.ref v0, .int v1] (dn_X4_settleDuel v0 v1) := by
  refine zCt_of (lv := [(0, .ref v0), (1, .int v1)]) (by decide +kernel) (Nat.le_of_ble_eq_true rfl) rfl ?_
  show zSm g l cX4_settleDuel 5 RX4 "settleDuel" (some .int) 1 23 zrI 0 [(0, .ref v0), (1, .int v1)] [] (dn_X4_settleDuel v0 v1)
  unfold dn_X4_settleDuel
  refine z_rec ?_
  refine z_bipush (n := (-9)) (v := (-9)) (q := 2) (by decide +kernel) rfl (by decide) ?_
  refine z_istore_n (j := 2) (q := 3) (by decide +kernel) rfl (by decide) rfl ?_
  refine z_iload_n (j := 1) (q := 4) (by decide +kernel) rfl 2 rfl ?_
  refine z_istore_n (j := 3) (q := 5) (by decide +kernel) rfl (by decide) rfl ?_
  refine zsub [2, 1, 0] rfl ?_
  exact sl_X4_settleDuel_5 g l v0 ((-9), v1)
theorem rc_X4_settleDuel (v0 : Nat) (v1 : Int32) : ∀ h x, dn_X4_settleDuel v0 v1 h = some x → ∃ fs, zgO 4 v0 h = some fs := fun h x hd => by
  obtain ⟨fs, e, -⟩ := Option.bind_eq_some_iff.mp hd
  exact ⟨fs, e⟩
def jn_X4_duel_30 : zAH → Option (Int32 × zAH) := fun h => some ((-1), h)
theorem sj_X4_duel_30 (g : zG) (l : Launch) : zSm g l cX4_duel 6 RX4 "duel" (some .int) 6 154 zrI 30 [] [] (jn_X4_duel_30) := by
  unfold jn_X4_duel_30
  refine z_iconst (n := (-1)) (v := (-1)) (q := 31) (by decide +kernel) rfl (by decide) ?_
  exact z_iret (by decide +kernel)
def jn_X4_duel_96 (kc43 : Int32 → zAH → Option (Int32 × zAH)) (v0 : Nat) (v1 : Int32) (v2 : Int32) (v3 : Int32) (v4 : Int32) (v5 : Int32) (w0 : Nat) (w1 : Int32) (w2 : Int32) : zAH → Option (Int32 × zAH) := fun h => (zaS 0 w0 w1 w2 h).bind fun h1 => kc43 (v5 + 1) h1
theorem sj_X4_duel_96 (g : zG) (l : Launch) (kc43 : Int32 → zAH → Option (Int32 × zAH)) (v0 : Nat) (v1 : Int32) (v2 : Int32) (v3 : Int32) (v4 : Int32) (v5 : Int32) (w0 : Nat) (w1 : Int32) (w2 : Int32) (hkc43 : ∀ s, zSm g l cX4_duel 6 RX4 "duel" (some .int) 6 154 zrI 43 [(0, .ref v0), (1, .int v1), (2, .int v2), (3, .int v3), (4, .int v4), (5, .int s)] [] (kc43 s)) : zSm g l cX4_duel 6 RX4 "duel" (some .int) 6 154 zrI 96 [(0, .ref v0), (1, .int v1), (2, .int v2), (3, .int v3), (4, .int v4), (5, .int v5)] [.int w2, .int w1, .ref w0] (jn_X4_duel_96 kc43 v0 v1 v2 v3 v4 v5 w0 w1 w2) := by
  unfold jn_X4_duel_96
  refine z_iast (q := 97) (Or.inl ⟨rfl, rfl, rfl⟩) (by decide +kernel) rfl ?_
  refine z_iinc (j := 5) (n := 1) (v := 1) (q := 100) (by decide +kernel) rfl 5 rfl (by decide) (by decide) rfl ?_
  refine z_goto (off := (-57)) (t := 43) (by decide +kernel) (by decide) ?_
  refine zsub [1, 2, 3, 4, 5, 0] rfl ?_
  exact hkc43 (v5 + 1)
def jn_X4_duel_103 (v0 : Nat) (v4 : Int32) : zAH → Option (Int32 × zAH) := fun h => zbd (dn_X4_settleDuel v0 v4 h) fun x1 h2 => (zpF 4 8 v0 (.int x1) h2).bind fun h3 => (zgA 4 17 v0 h3).bind fun x4 => (zaI 0 x4 0 h3).bind fun x5 => some (x5, h3)
theorem sj_X4_duel_103 (g : zG) (l : Launch) (v0 : Nat) (v4 : Int32) : zSm g l cX4_duel 6 RX4 "duel" (some .int) 6 154 zrI 103 [(0, .ref v0), (4, .int v4)] [] (jn_X4_duel_103 v0 v4) := by
  unfold jn_X4_duel_103
  refine z_aload_n (j := 0) (q := 104) (by decide +kernel) rfl 0 rfl ?_
  refine z_aload_n (j := 0) (q := 105) (by decide +kernel) rfl 0 rfl ?_
  refine z_iload (j := 4) (q := 107) (by decide +kernel) rfl 1 rfl ?_
  refine z_callVI (As := [.int v4]) (st := [.ref v0]) (q := 110) (ct_X4_settleDuel g l v0 v4) zm_RX4_242 (rc_X4_settleDuel v0 v4) rfl (by decide) (by decide) (Nat.le_of_ble_eq_true rfl) rfl (by decide +kernel) rfl fun x1 => ?_
  refine z_putV (q := 113) zp_RX4_46 (fun z => by cases z) rfl rfl (by decide +kernel) rfl ?_
  refine z_aload_n (j := 0) (q := 114) (by decide +kernel) rfl 0 rfl ?_
  refine z_getA (q := 117) zf_RX4_75 (by decide +kernel) rfl fun x4 => ?_
  refine z_iconst (n := 0) (v := 0) (q := 118) (by decide +kernel) rfl (by decide) ?_
  refine z_iald (q := 119) (Or.inl ⟨rfl, rfl⟩) (by decide +kernel) rfl fun x5 => ?_
  exact z_iret (by decide +kernel)
def lb_X4_duel_43 (v0 : Nat) (v1 : Int32) (v2 : Int32) (v3 : Int32) (v4 : Int32) (rec : (Int32) → zAH → Option (Int32 × zAH)) (s : Int32) : zAH → Option (Int32 × zAH) := fun h => if s < v4 then zbd (dn_X4_tryChoices v0 v1 v2 v3 s h) fun x1 h2 => (zgA 4 17 v0 h2).bind fun x3 => (zgA 4 5 v0 h2).bind fun x4 => (zgI 1 3 x4 h2).bind fun x5 => if x5 = v2 then jn_X4_duel_96 rec v0 v1 v2 v3 v4 s x3 s 2 h2 else (zgA 4 5 v0 h2).bind fun x6 => (zgI 1 3 x6 h2).bind fun x7 => if x7 = v1 then jn_X4_duel_96 rec v0 v1 v2 v3 v4 s x3 s 0 h2 else jn_X4_duel_96 rec v0 v1 v2 v3 v4 s x3 s 1 h2 else jn_X4_duel_103 v0 v4 h
def lp_X4_duel_43 (v0 : Nat) (v1 : Int32) (v2 : Int32) (v3 : Int32) (v4 : Int32) (s : Int32) : zAH → Option (Int32 × zAH) := zlp (lb_X4_duel_43 v0 v1 v2 v3 v4) 2000 s
theorem sl_X4_duel_43 (g : zG) (l : Launch) (v0 : Nat) (v1 : Int32) (v2 : Int32) (v3 : Int32) (v4 : Int32) (s : Int32) : zSm g l cX4_duel 6 RX4 "duel" (some .int) 6 154 zrI 43 [(0, .ref v0), (1, .int v1), (2, .int v2), (3, .int v3), (4, .int v4), (5, .int s)] [] (lp_X4_duel_43 v0 v1 v2 v3 v4 s) := by
  unfold lp_X4_duel_43
  refine z_loop (lvf := fun s => [(0, .ref v0), (1, .int v1), (2, .int v2), (3, .int v3), (4, .int v4), (5, .int s)]) (fun rec hrec s => ?_) 2000 s
  unfold lb_X4_duel_43
  refine z_iload (j := 5) (q := 45) (by decide +kernel) rfl 5 rfl ?_
  refine z_iload (j := 4) (q := 47) (by decide +kernel) rfl 4 rfl ?_
  refine z_icmp_ge (off := 56) (t := 103) (q := 50) (by decide +kernel) (by decide) rfl ?_ ?_
  · refine zsub [0, 4] rfl ?_
    exact sj_X4_duel_103 g l v0 v4
  · refine z_aload_n (j := 0) (q := 51) (by decide +kernel) rfl 0 rfl ?_
    refine z_iload_n (j := 1) (q := 52) (by decide +kernel) rfl 1 rfl ?_
    refine z_iload_n (j := 2) (q := 53) (by decide +kernel) rfl 2 rfl ?_
    refine z_iload_n (j := 3) (q := 54) (by decide +kernel) rfl 3 rfl ?_
    refine z_iload (j := 5) (q := 56) (by decide +kernel) rfl 5 rfl ?_
    refine z_callVU (As := [.int v1, .int v2, .int v3, .int s]) (st := []) (q := 59) (ct_X4_tryChoices g l v0 v1 v2 v3 s) zm_RX4_234 (rc_X4_tryChoices v0 v1 v2 v3 s) rfl (by decide) (by decide) (Nat.le_of_ble_eq_true rfl) rfl (by decide +kernel) rfl fun x1 => ?_
    refine z_aload_n (j := 0) (q := 60) (by decide +kernel) rfl 0 rfl ?_
    refine z_getA (q := 63) zf_RX4_75 (by decide +kernel) rfl fun x3 => ?_
    refine z_iload (j := 5) (q := 65) (by decide +kernel) rfl 5 rfl ?_
    refine z_aload_n (j := 0) (q := 66) (by decide +kernel) rfl 0 rfl ?_
    refine z_getA (q := 69) zf_RX4_35 (by decide +kernel) rfl fun x4 => ?_
    refine z_getI (q := 72) zf_RX4_208 (by decide +kernel) rfl fun x5 => ?_
    refine z_iload_n (j := 2) (q := 73) (by decide +kernel) rfl 2 rfl ?_
    refine z_icmp_ne (off := 7) (t := 80) (q := 76) (by decide +kernel) (by decide) rfl ?_ ?_
    · refine z_aload_n (j := 0) (q := 81) (by decide +kernel) rfl 0 rfl ?_
      refine z_getA (q := 84) zf_RX4_35 (by decide +kernel) rfl fun x6 => ?_
      refine z_getI (q := 87) zf_RX4_208 (by decide +kernel) rfl fun x7 => ?_
      refine z_iload_n (j := 1) (q := 88) (by decide +kernel) rfl 1 rfl ?_
      refine z_icmp_ne (off := 7) (t := 95) (q := 91) (by decide +kernel) (by decide) rfl ?_ ?_
      · refine z_iconst (n := 1) (v := 1) (q := 96) (by decide +kernel) rfl (by decide) ?_
        refine zsub [0, 1, 2, 3, 4, 5] rfl ?_
        exact sj_X4_duel_96 g l rec v0 v1 v2 v3 v4 s x3 s 1 hrec
      · refine z_iconst (n := 0) (v := 0) (q := 92) (by decide +kernel) rfl (by decide) ?_
        refine z_goto (off := 4) (t := 96) (by decide +kernel) (by decide) ?_
        refine zsub [0, 1, 2, 3, 4, 5] rfl ?_
        exact sj_X4_duel_96 g l rec v0 v1 v2 v3 v4 s x3 s 0 hrec
    · refine z_iconst (n := 2) (v := 2) (q := 77) (by decide +kernel) rfl (by decide) ?_
      refine z_goto (off := 19) (t := 96) (by decide +kernel) (by decide) ?_
      refine zsub [0, 1, 2, 3, 4, 5] rfl ?_
      exact sj_X4_duel_96 g l rec v0 v1 v2 v3 v4 s x3 s 2 hrec
def dn_X4_duel (v0 : Nat) (v1 : Int32) (v2 : Int32) (v3 : Int32) : zAH → Option (Int32 × zAH) := fun h => (zgO 4 v0 h).bind fun _ => zbd (dn_X4_isRunner v0 v1 h) fun x1 h2 => if x1 = 0 then jn_X4_duel_30 h2 else zbd (dn_X4_isRunner v0 v2 h2) fun x3 h4 => if x3 = 0 then jn_X4_duel_30 h4 else if v1 = v2 then jn_X4_duel_30 h4 else if v3 < 0 then jn_X4_duel_30 h4 else if 2 < v3 then jn_X4_duel_30 h4 else zbd (dn_X4_powerOfFour (2 * v3) h4) fun x5 h6 => lp_X4_duel_43 v0 v1 v2 v3 x5 0 h6
theorem ct_X4_duel (g : zG) (l : Launch) (v0 : Nat) (v1 : Int32) (v2 : Int32) (v3 : Int32) : zCt g l yX4_duel cX4_duel 6 (some .int) 6 154 zrI [.ref v0, .int v1, .int v2, .int v3] (dn_X4_duel v0 v1 v2 v3) := by
  refine zCt_of (lv := [(0, .ref v0), (1, .int v1), (2, .int v2), (3, .int v3)]) (by decide +kernel) (Nat.le_of_ble_eq_true rfl) rfl ?_
  show zSm g l cX4_duel 6 RX4 "duel" (some .int) 6 154 zrI 0 [(0, .ref v0), (1, .int v1), (2, .int v2), (3, .int v3)] [] (dn_X4_duel v0 v1 v2 v3)
  unfold dn_X4_duel
  refine z_rec ?_
  refine z_aload_n (j := 0) (q := 1) (by decide +kernel) rfl 0 rfl ?_
  refine z_iload_n (j := 1) (q := 2) (by decide +kernel) rfl 1 rfl ?_
  refine z_callVI (As := [.int v1]) (st := []) (q := 5) (ct_X4_isRunner g l v0 v1) zm_RX4_166 (rc_X4_isRunner v0 v1) rfl (by decide) (by decide) (Nat.le_of_ble_eq_true rfl) rfl (by decide +kernel) rfl fun x1 => ?_
  refine z_if_eq (off := 25) (t := 30) (q := 8) (by decide +kernel) (by decide) rfl ?_ ?_
  · refine zsub [] rfl ?_
    exact sj_X4_duel_30 g l 
  · refine z_aload_n (j := 0) (q := 9) (by decide +kernel) rfl 0 rfl ?_
    refine z_iload_n (j := 2) (q := 10) (by decide +kernel) rfl 2 rfl ?_
    refine z_callVI (As := [.int v2]) (st := []) (q := 13) (ct_X4_isRunner g l v0 v2) zm_RX4_166 (rc_X4_isRunner v0 v2) rfl (by decide) (by decide) (Nat.le_of_ble_eq_true rfl) rfl (by decide +kernel) rfl fun x3 => ?_
    refine z_if_eq (off := 17) (t := 30) (q := 16) (by decide +kernel) (by decide) rfl ?_ ?_
    · refine zsub [] rfl ?_
      exact sj_X4_duel_30 g l 
    · refine z_iload_n (j := 1) (q := 17) (by decide +kernel) rfl 1 rfl ?_
      refine z_iload_n (j := 2) (q := 18) (by decide +kernel) rfl 2 rfl ?_
      refine z_icmp_eq (off := 12) (t := 30) (q := 21) (by decide +kernel) (by decide) rfl ?_ ?_
      · refine zsub [] rfl ?_
        exact sj_X4_duel_30 g l 
      · refine z_iload_n (j := 3) (q := 22) (by decide +kernel) rfl 3 rfl ?_
        refine z_if_lt (off := 8) (t := 30) (q := 25) (by decide +kernel) (by decide) rfl ?_ ?_
        · refine zsub [] rfl ?_
          exact sj_X4_duel_30 g l 
        · refine z_iload_n (j := 3) (q := 26) (by decide +kernel) rfl 3 rfl ?_
          refine z_iconst (n := 2) (v := 2) (q := 27) (by decide +kernel) rfl (by decide) ?_
          refine z_icmp_le (off := 5) (t := 32) (q := 30) (by decide +kernel) (by decide) rfl ?_ ?_
          · refine z_iconst (n := 2) (v := 2) (q := 33) (by decide +kernel) rfl (by decide) ?_
            refine z_iload_n (j := 3) (q := 34) (by decide +kernel) rfl 3 rfl ?_
            refine z_imul (q := 35) (by decide +kernel) rfl ?_
            refine z_callSI (As := [.int (2 * v3)]) (st := []) (q := 38) (ct_X4_powerOfFour g l (2 * v3)) zm_RX4_231 rfl (by decide) (by decide) (Nat.le_of_ble_eq_true rfl) rfl (by decide +kernel) rfl fun x5 => ?_
            refine z_istore (j := 4) (q := 40) (by decide +kernel) rfl (by decide) rfl ?_
            refine z_iconst (n := 0) (v := 0) (q := 41) (by decide +kernel) rfl (by decide) ?_
            refine z_istore (j := 5) (q := 43) (by decide +kernel) rfl (by decide) rfl ?_
            refine zsub [2, 3, 4, 5, 1, 0] rfl ?_
            exact sl_X4_duel_43 g l v0 v1 v2 v3 x5 0
          · refine zsub [] rfl ?_
            exact sj_X4_duel_30 g l 
theorem rc_X4_duel (v0 : Nat) (v1 : Int32) (v2 : Int32) (v3 : Int32) : ∀ h x, dn_X4_duel v0 v1 v2 v3 h = some x → ∃ fs, zgO 4 v0 h = some fs := fun h x hd => by
  obtain ⟨fs, e, -⟩ := Option.bind_eq_some_iff.mp hd
  exact ⟨fs, e⟩
def jn_X4_arePactOf_36 (w0 : Int32) : zAH → Option (Int32 × zAH) := fun h => if w0 = 0 ∨ w0 = 1 then some (w0, h) else none
theorem sj_X4_arePactOf_36 (g : zG) (l : Launch) (w0 : Int32) : zSm g l cX4_arePactOf 4 RX4 "arePactOf" (some .boolean) 1 21 zrI 36 [] [.int w0] (jn_X4_arePactOf_36 w0) := by
  unfold jn_X4_arePactOf_36
  exact z_zret (by decide +kernel)
def jn_X4_arePactOf_35 : zAH → Option (Int32 × zAH) := fun h => jn_X4_arePactOf_36 0 h
theorem sj_X4_arePactOf_35 (g : zG) (l : Launch) : zSm g l cX4_arePactOf 4 RX4 "arePactOf" (some .boolean) 1 21 zrI 35 [] [] (jn_X4_arePactOf_35) := by
  unfold jn_X4_arePactOf_35
  refine z_iconst (n := 0) (v := 0) (q := 36) (by decide +kernel) rfl (by decide) ?_
  refine zsub [] rfl ?_
  exact sj_X4_arePactOf_36 g l 0
def dn_X4_arePactOf (v0 : Nat) (v1 : Int32) (v2 : Int32) (v3 : Int32) : zAH → Option (Int32 × zAH) := fun h => (zgO 4 v0 h).bind fun _ => zbd (dn_X4_isRunner v0 v1 h) fun x1 h2 => if x1 = 0 then jn_X4_arePactOf_35 h2 else zbd (dn_X4_isRunner v0 v2 h2) fun x3 h4 => if x3 = 0 then jn_X4_arePactOf_35 h4 else if v1 = v2 then jn_X4_arePactOf_35 h4 else if v3 < 1 then jn_X4_arePactOf_35 h4 else if 2 < v3 then jn_X4_arePactOf_35 h4 else jn_X4_arePactOf_36 1 h4
theorem ct_X4_arePactOf (g : zG) (l : Launch) (v0 : Nat) (v1 : Int32) (v2 : Int32) (v3 : Int32) : zCt g l yX4_arePactOf cX4_arePactOf 4 (some .boolean) 1 21 zrI [.ref v0, .int v1, .int v2, .int v3] (dn_X4_arePactOf v0 v1 v2 v3) := by
  refine zCt_of (lv := [(0, .ref v0), (1, .int v1), (2, .int v2), (3, .int v3)]) (by decide +kernel) (Nat.le_of_ble_eq_true rfl) rfl ?_
  show zSm g l cX4_arePactOf 4 RX4 "arePactOf" (some .boolean) 1 21 zrI 0 [(0, .ref v0), (1, .int v1), (2, .int v2), (3, .int v3)] [] (dn_X4_arePactOf v0 v1 v2 v3)
  unfold dn_X4_arePactOf
  refine z_rec ?_
  refine z_aload_n (j := 0) (q := 1) (by decide +kernel) rfl 0 rfl ?_
  refine z_iload_n (j := 1) (q := 2) (by decide +kernel) rfl 1 rfl ?_
  refine z_callVI (As := [.int v1]) (st := []) (q := 5) (ct_X4_isRunner g l v0 v1) zm_RX4_166 (rc_X4_isRunner v0 v1) rfl (by decide) (by decide) (Nat.le_of_ble_eq_true rfl) rfl (by decide +kernel) rfl fun x1 => ?_
  refine z_if_eq (off := 30) (t := 35) (q := 8) (by decide +kernel) (by decide) rfl ?_ ?_
  · refine zsub [] rfl ?_
    exact sj_X4_arePactOf_35 g l 
  · refine z_aload_n (j := 0) (q := 9) (by decide +kernel) rfl 0 rfl ?_
    refine z_iload_n (j := 2) (q := 10) (by decide +kernel) rfl 2 rfl ?_
    refine z_callVI (As := [.int v2]) (st := []) (q := 13) (ct_X4_isRunner g l v0 v2) zm_RX4_166 (rc_X4_isRunner v0 v2) rfl (by decide) (by decide) (Nat.le_of_ble_eq_true rfl) rfl (by decide +kernel) rfl fun x3 => ?_
    refine z_if_eq (off := 22) (t := 35) (q := 16) (by decide +kernel) (by decide) rfl ?_ ?_
    · refine zsub [] rfl ?_
      exact sj_X4_arePactOf_35 g l 
    · refine z_iload_n (j := 1) (q := 17) (by decide +kernel) rfl 1 rfl ?_
      refine z_iload_n (j := 2) (q := 18) (by decide +kernel) rfl 2 rfl ?_
      refine z_icmp_eq (off := 17) (t := 35) (q := 21) (by decide +kernel) (by decide) rfl ?_ ?_
      · refine zsub [] rfl ?_
        exact sj_X4_arePactOf_35 g l 
      · refine z_iload_n (j := 3) (q := 22) (by decide +kernel) rfl 3 rfl ?_
        refine z_iconst (n := 1) (v := 1) (q := 23) (by decide +kernel) rfl (by decide) ?_
        refine z_icmp_lt (off := 12) (t := 35) (q := 26) (by decide +kernel) (by decide) rfl ?_ ?_
        · refine zsub [] rfl ?_
          exact sj_X4_arePactOf_35 g l 
        · refine z_iload_n (j := 3) (q := 27) (by decide +kernel) rfl 3 rfl ?_
          refine z_iconst (n := 2) (v := 2) (q := 28) (by decide +kernel) rfl (by decide) ?_
          refine z_icmp_gt (off := 7) (t := 35) (q := 31) (by decide +kernel) (by decide) rfl ?_ ?_
          · refine zsub [] rfl ?_
            exact sj_X4_arePactOf_35 g l 
          · refine z_iconst (n := 1) (v := 1) (q := 32) (by decide +kernel) rfl (by decide) ?_
            refine z_goto (off := 4) (t := 36) (by decide +kernel) (by decide) ?_
            refine zsub [] rfl ?_
            exact sj_X4_arePactOf_36 g l 1
theorem rc_X4_arePactOf (v0 : Nat) (v1 : Int32) (v2 : Int32) (v3 : Int32) : ∀ h x, dn_X4_arePactOf v0 v1 v2 v3 h = some x → ∃ fs, zgO 4 v0 h = some fs := fun h x hd => by
  obtain ⟨fs, e, -⟩ := Option.bind_eq_some_iff.mp hd
  exact ⟨fs, e⟩
def jn_X4_pact_29 : zAH → Option (Int32 × zAH) := fun h => some ((-1), h)
theorem sj_X4_pact_29 (g : zG) (l : Launch) : zSm g l cX4_pact 9 RX4 "pact" (some .int) 6 154 zrI 29 [] [] (jn_X4_pact_29) := by
  unfold jn_X4_pact_29
  refine z_iconst (n := (-1)) (v := (-1)) (q := 30) (by decide +kernel) rfl (by decide) ?_
  exact z_iret (by decide +kernel)
def jn_X4_pact_95 (kc50 : (Int32 × Int32 × Int32) → zAH → Option (Int32 × zAH)) (v0 : Nat) (v1 : Int32) (v2 : Int32) (v3 : Int32) (v4 : Int32) (v5 : Int32) (v6 : Int32) (v7 : Int32) (v8 : Int32) : zAH → Option (Int32 × zAH) := fun h => kc50 (v6, v7, v8 + 1) h
theorem sj_X4_pact_95 (g : zG) (l : Launch) (kc50 : (Int32 × Int32 × Int32) → zAH → Option (Int32 × zAH)) (v0 : Nat) (v1 : Int32) (v2 : Int32) (v3 : Int32) (v4 : Int32) (v5 : Int32) (v6 : Int32) (v7 : Int32) (v8 : Int32) (hkc50 : ∀ s, zSm g l cX4_pact 9 RX4 "pact" (some .int) 6 154 zrI 50 [(0, .ref v0), (1, .int v1), (2, .int v2), (3, .int v3), (4, .int v4), (5, .int v5), (6, .int s.1), (7, .int s.2.1), (8, .int s.2.2)] [] (kc50 s)) : zSm g l cX4_pact 9 RX4 "pact" (some .int) 6 154 zrI 95 [(0, .ref v0), (1, .int v1), (2, .int v2), (3, .int v3), (4, .int v4), (5, .int v5), (6, .int v6), (7, .int v7), (8, .int v8)] [] (jn_X4_pact_95 kc50 v0 v1 v2 v3 v4 v5 v6 v7 v8) := by
  unfold jn_X4_pact_95
  refine z_iinc (j := 8) (n := 1) (v := 1) (q := 98) (by decide +kernel) rfl 8 rfl (by decide) (by decide) rfl ?_
  refine z_goto (off := (-48)) (t := 50) (by decide +kernel) (by decide) ?_
  refine zsub [1, 2, 3, 4, 5, 6, 7, 8, 0] rfl ?_
  exact hkc50 (v6, v7, v8 + 1)
def jn_X4_pact_90 (kc50 : (Int32 × Int32 × Int32) → zAH → Option (Int32 × zAH)) (v0 : Nat) (v1 : Int32) (v2 : Int32) (v3 : Int32) (v4 : Int32) (v5 : Int32) (v7 : Int32) (v8 : Int32) (w0 : Int32) : zAH → Option (Int32 × zAH) := fun h => jn_X4_pact_95 kc50 v0 v1 v2 v3 v4 v5 w0 (v7 + 1) v8 h
theorem sj_X4_pact_90 (g : zG) (l : Launch) (kc50 : (Int32 × Int32 × Int32) → zAH → Option (Int32 × zAH)) (v0 : Nat) (v1 : Int32) (v2 : Int32) (v3 : Int32) (v4 : Int32) (v5 : Int32) (v7 : Int32) (v8 : Int32) (w0 : Int32) (hkc50 : ∀ s, zSm g l cX4_pact 9 RX4 "pact" (some .int) 6 154 zrI 50 [(0, .ref v0), (1, .int v1), (2, .int v2), (3, .int v3), (4, .int v4), (5, .int v5), (6, .int s.1), (7, .int s.2.1), (8, .int s.2.2)] [] (kc50 s)) : zSm g l cX4_pact 9 RX4 "pact" (some .int) 6 154 zrI 90 [(0, .ref v0), (1, .int v1), (2, .int v2), (3, .int v3), (4, .int v4), (5, .int v5), (7, .int v7), (8, .int v8)] [.int w0] (jn_X4_pact_90 kc50 v0 v1 v2 v3 v4 v5 v7 v8 w0) := by
  unfold jn_X4_pact_90
  refine z_istore (j := 6) (q := 92) (by decide +kernel) rfl (by decide) rfl ?_
  refine z_iinc (j := 7) (n := 1) (v := 1) (q := 95) (by decide +kernel) rfl 7 rfl (by decide) (by decide) rfl ?_
  refine zsub [2, 3, 4, 5, 6, 7, 1, 0, 8] rfl ?_
  exact sj_X4_pact_95 g l kc50 v0 v1 v2 v3 v4 v5 w0 (v7 + 1) v8 hkc50
def jn_X4_pact_112 (v6 : Int32) : zAH → Option (Int32 × zAH) := fun h => some (v6, h)
theorem sj_X4_pact_112 (g : zG) (l : Launch) (v6 : Int32) : zSm g l cX4_pact 9 RX4 "pact" (some .int) 6 154 zrI 112 [(6, .int v6)] [] (jn_X4_pact_112 v6) := by
  unfold jn_X4_pact_112
  refine z_iload (j := 6) (q := 114) (by decide +kernel) rfl 0 rfl ?_
  exact z_iret (by decide +kernel)
def jn_X4_pact_101 (v0 : Nat) (v6 : Int32) (v7 : Int32) : zAH → Option (Int32 × zAH) := fun h => if 0 < v7 then (zpF 4 8 v0 (.int v7) h).bind fun h1 => jn_X4_pact_112 v6 h1 else jn_X4_pact_112 v6 h
theorem sj_X4_pact_101 (g : zG) (l : Launch) (v0 : Nat) (v6 : Int32) (v7 : Int32) : zSm g l cX4_pact 9 RX4 "pact" (some .int) 6 154 zrI 101 [(0, .ref v0), (6, .int v6), (7, .int v7)] [] (jn_X4_pact_101 v0 v6 v7) := by
  unfold jn_X4_pact_101
  refine z_iload (j := 7) (q := 103) (by decide +kernel) rfl 2 rfl ?_
  refine z_if_le (off := 9) (t := 112) (q := 106) (by decide +kernel) (by decide) rfl ?_ ?_
  · refine zsub [1] rfl ?_
    exact sj_X4_pact_112 g l v6
  · refine z_aload_n (j := 0) (q := 107) (by decide +kernel) rfl 0 rfl ?_
    refine z_iload (j := 7) (q := 109) (by decide +kernel) rfl 2 rfl ?_
    refine z_putV (q := 112) zp_RX4_46 (fun z => by cases z) rfl rfl (by decide +kernel) rfl ?_
    refine zsub [1] rfl ?_
    exact sj_X4_pact_112 g l v6
def lb_X4_pact_50 (v0 : Nat) (v1 : Int32) (v2 : Int32) (v3 : Int32) (v4 : Int32) (v5 : Int32) (rec : (Int32 × Int32 × Int32) → zAH → Option (Int32 × zAH)) (s : Int32 × Int32 × Int32) : zAH → Option (Int32 × zAH) := fun h => if s.2.2 < v5 then zbd (dn_X4_tryChoices v0 v1 v2 v4 s.2.2 h) fun x1 h2 => (zgA 4 5 v0 h2).bind fun x3 => (zgI 1 3 x3 h2).bind fun x4 => if x4 = v3 then if s.2.1 = 0 then jn_X4_pact_90 rec v0 v1 v2 v3 v4 v5 s.2.1 s.2.2 s.2.2 h2 else jn_X4_pact_90 rec v0 v1 v2 v3 v4 v5 s.2.1 s.2.2 s.1 h2 else jn_X4_pact_95 rec v0 v1 v2 v3 v4 v5 s.1 s.2.1 s.2.2 h2 else jn_X4_pact_101 v0 s.1 s.2.1 h
def lp_X4_pact_50 (v0 : Nat) (v1 : Int32) (v2 : Int32) (v3 : Int32) (v4 : Int32) (v5 : Int32) (s : Int32 × Int32 × Int32) : zAH → Option (Int32 × zAH) := zlp (lb_X4_pact_50 v0 v1 v2 v3 v4 v5) 2000 s
theorem sl_X4_pact_50 (g : zG) (l : Launch) (v0 : Nat) (v1 : Int32) (v2 : Int32) (v3 : Int32) (v4 : Int32) (v5 : Int32) (s : Int32 × Int32 × Int32) : zSm g l cX4_pact 9 RX4 "pact" (some .int) 6 154 zrI 50 [(0, .ref v0), (1, .int v1), (2, .int v2), (3, .int v3), (4, .int v4), (5, .int v5), (6, .int s.1), (7, .int s.2.1), (8, .int s.2.2)] [] (lp_X4_pact_50 v0 v1 v2 v3 v4 v5 s) := by
  unfold lp_X4_pact_50
  refine z_loop (lvf := fun s => [(0, .ref v0), (1, .int v1), (2, .int v2), (3, .int v3), (4, .int v4), (5, .int v5), (6, .int s.1), (7, .int s.2.1), (8, .int s.2.2)]) (fun rec hrec s => ?_) 2000 s
  unfold lb_X4_pact_50
  refine z_iload (j := 8) (q := 52) (by decide +kernel) rfl 8 rfl ?_
  refine z_iload (j := 5) (q := 54) (by decide +kernel) rfl 5 rfl ?_
  refine z_icmp_ge (off := 47) (t := 101) (q := 57) (by decide +kernel) (by decide) rfl ?_ ?_
  · refine zsub [0, 6, 7] rfl ?_
    exact sj_X4_pact_101 g l v0 s.1 s.2.1
  · refine z_aload_n (j := 0) (q := 58) (by decide +kernel) rfl 0 rfl ?_
    refine z_iload_n (j := 1) (q := 59) (by decide +kernel) rfl 1 rfl ?_
    refine z_iload_n (j := 2) (q := 60) (by decide +kernel) rfl 2 rfl ?_
    refine z_iload (j := 4) (q := 62) (by decide +kernel) rfl 4 rfl ?_
    refine z_iload (j := 8) (q := 64) (by decide +kernel) rfl 8 rfl ?_
    refine z_callVU (As := [.int v1, .int v2, .int v4, .int s.2.2]) (st := []) (q := 67) (ct_X4_tryChoices g l v0 v1 v2 v4 s.2.2) zm_RX4_234 (rc_X4_tryChoices v0 v1 v2 v4 s.2.2) rfl (by decide) (by decide) (Nat.le_of_ble_eq_true rfl) rfl (by decide +kernel) rfl fun x1 => ?_
    refine z_aload_n (j := 0) (q := 68) (by decide +kernel) rfl 0 rfl ?_
    refine z_getA (q := 71) zf_RX4_35 (by decide +kernel) rfl fun x3 => ?_
    refine z_getI (q := 74) zf_RX4_208 (by decide +kernel) rfl fun x4 => ?_
    refine z_iload_n (j := 3) (q := 75) (by decide +kernel) rfl 3 rfl ?_
    refine z_icmp_ne (off := 20) (t := 95) (q := 78) (by decide +kernel) (by decide) rfl ?_ ?_
    · refine zsub [0, 1, 2, 3, 4, 5, 6, 7, 8] rfl ?_
      exact sj_X4_pact_95 g l rec v0 v1 v2 v3 v4 v5 s.1 s.2.1 s.2.2 hrec
    · refine z_iload (j := 7) (q := 80) (by decide +kernel) rfl 7 rfl ?_
      refine z_if_ne (off := 8) (t := 88) (q := 83) (by decide +kernel) (by decide) rfl ?_ ?_
      · refine z_iload (j := 6) (q := 90) (by decide +kernel) rfl 6 rfl ?_
        refine zsub [0, 1, 2, 3, 4, 5, 7, 8] rfl ?_
        exact sj_X4_pact_90 g l rec v0 v1 v2 v3 v4 v5 s.2.1 s.2.2 s.1 hrec
      · refine z_iload (j := 8) (q := 85) (by decide +kernel) rfl 8 rfl ?_
        refine z_goto (off := 5) (t := 90) (by decide +kernel) (by decide) ?_
        refine zsub [0, 1, 2, 3, 4, 5, 7, 8] rfl ?_
        exact sj_X4_pact_90 g l rec v0 v1 v2 v3 v4 v5 s.2.1 s.2.2 s.2.2 hrec
def dn_X4_pact (v0 : Nat) (v1 : Int32) (v2 : Int32) (v3 : Int32) (v4 : Int32) : zAH → Option (Int32 × zAH) := fun h => (zgO 4 v0 h).bind fun _ => zbd (dn_X4_arePactOf v0 v1 v2 v4 h) fun x1 h2 => if x1 = 0 then jn_X4_pact_29 h2 else zbd (dn_X4_isRunner v0 v3 h2) fun x3 h4 => if x3 = 0 then jn_X4_pact_29 h4 else if v3 = v1 then jn_X4_pact_29 h4 else if v3 = v2 then jn_X4_pact_29 h4 else zbd (dn_X4_powerOfFour (2 * v4) h4) fun x5 h6 => lp_X4_pact_50 v0 v1 v2 v3 v4 x5 ((-9), 0, 0) h6
theorem ct_X4_pact (g : zG) (l : Launch) (v0 : Nat) (v1 : Int32) (v2 : Int32) (v3 : Int32) (v4 : Int32) : zCt g l yX4_pact cX4_pact 9 (some .int) 6 154 zrI [.ref v0, .int v1, .int v2, .int v3, .int v4] (dn_X4_pact v0 v1 v2 v3 v4) := by
  refine zCt_of (lv := [(0, .ref v0), (1, .int v1), (2, .int v2), (3, .int v3), (4, .int v4)]) (by decide +kernel) (Nat.le_of_ble_eq_true rfl) rfl ?_
  show zSm g l cX4_pact 9 RX4 "pact" (some .int) 6 154 zrI 0 [(0, .ref v0), (1, .int v1), (2, .int v2), (3, .int v3), (4, .int v4)] [] (dn_X4_pact v0 v1 v2 v3 v4)
  unfold dn_X4_pact
  refine z_rec ?_
  refine z_aload_n (j := 0) (q := 1) (by decide +kernel) rfl 0 rfl ?_
  refine z_iload_n (j := 1) (q := 2) (by decide +kernel) rfl 1 rfl ?_
  refine z_iload_n (j := 2) (q := 3) (by decide +kernel) rfl 2 rfl ?_
  refine z_iload (j := 4) (q := 5) (by decide +kernel) rfl 4 rfl ?_
  refine z_callVI (As := [.int v1, .int v2, .int v4]) (st := []) (q := 8) (ct_X4_arePactOf g l v0 v1 v2 v4) zm_RX4_245 (rc_X4_arePactOf v0 v1 v2 v4) rfl (by decide) (by decide) (Nat.le_of_ble_eq_true rfl) rfl (by decide +kernel) rfl fun x1 => ?_
  refine z_if_eq (off := 21) (t := 29) (q := 11) (by decide +kernel) (by decide) rfl ?_ ?_
  · refine zsub [] rfl ?_
    exact sj_X4_pact_29 g l 
  · refine z_aload_n (j := 0) (q := 12) (by decide +kernel) rfl 0 rfl ?_
    refine z_iload_n (j := 3) (q := 13) (by decide +kernel) rfl 3 rfl ?_
    refine z_callVI (As := [.int v3]) (st := []) (q := 16) (ct_X4_isRunner g l v0 v3) zm_RX4_166 (rc_X4_isRunner v0 v3) rfl (by decide) (by decide) (Nat.le_of_ble_eq_true rfl) rfl (by decide +kernel) rfl fun x3 => ?_
    refine z_if_eq (off := 13) (t := 29) (q := 19) (by decide +kernel) (by decide) rfl ?_ ?_
    · refine zsub [] rfl ?_
      exact sj_X4_pact_29 g l 
    · refine z_iload_n (j := 3) (q := 20) (by decide +kernel) rfl 3 rfl ?_
      refine z_iload_n (j := 1) (q := 21) (by decide +kernel) rfl 1 rfl ?_
      refine z_icmp_eq (off := 8) (t := 29) (q := 24) (by decide +kernel) (by decide) rfl ?_ ?_
      · refine zsub [] rfl ?_
        exact sj_X4_pact_29 g l 
      · refine z_iload_n (j := 3) (q := 25) (by decide +kernel) rfl 3 rfl ?_
        refine z_iload_n (j := 2) (q := 26) (by decide +kernel) rfl 2 rfl ?_
        refine z_icmp_ne (off := 5) (t := 31) (q := 29) (by decide +kernel) (by decide) rfl ?_ ?_
        · refine z_iconst (n := 2) (v := 2) (q := 32) (by decide +kernel) rfl (by decide) ?_
          refine z_iload (j := 4) (q := 34) (by decide +kernel) rfl 4 rfl ?_
          refine z_imul (q := 35) (by decide +kernel) rfl ?_
          refine z_callSI (As := [.int (2 * v4)]) (st := []) (q := 38) (ct_X4_powerOfFour g l (2 * v4)) zm_RX4_231 rfl (by decide) (by decide) (Nat.le_of_ble_eq_true rfl) rfl (by decide +kernel) rfl fun x5 => ?_
          refine z_istore (j := 5) (q := 40) (by decide +kernel) rfl (by decide) rfl ?_
          refine z_bipush (n := (-9)) (v := (-9)) (q := 42) (by decide +kernel) rfl (by decide) ?_
          refine z_istore (j := 6) (q := 44) (by decide +kernel) rfl (by decide) rfl ?_
          refine z_iconst (n := 0) (v := 0) (q := 45) (by decide +kernel) rfl (by decide) ?_
          refine z_istore (j := 7) (q := 47) (by decide +kernel) rfl (by decide) rfl ?_
          refine z_iconst (n := 0) (v := 0) (q := 48) (by decide +kernel) rfl (by decide) ?_
          refine z_istore (j := 8) (q := 50) (by decide +kernel) rfl (by decide) rfl ?_
          refine zsub [4, 5, 6, 7, 8, 3, 2, 1, 0] rfl ?_
          exact sl_X4_pact_50 g l v0 v1 v2 v3 v4 x5 ((-9), 0, 0)
        · refine zsub [] rfl ?_
          exact sj_X4_pact_29 g l 
theorem rc_X4_pact (v0 : Nat) (v1 : Int32) (v2 : Int32) (v3 : Int32) (v4 : Int32) : ∀ h x, dn_X4_pact v0 v1 v2 v3 v4 h = some x → ∃ fs, zgO 4 v0 h = some fs := fun h x hd => by
  obtain ⟨fs, e, -⟩ := Option.bind_eq_some_iff.mp hd
  exact ⟨fs, e⟩
def dn_J6_bitCount_0f7a4 (v0 : Int32) : zAH → Option (Int32 × zAH) := fun h => some ((((((((v0 - (((Int32.toUInt32 v0 >>> (Int32.toUInt32 1 &&& Int32.toUInt32 31)).toInt32) &&& 1431655765)) &&& 858993459) + (((Int32.toUInt32 (v0 - (((Int32.toUInt32 v0 >>> (Int32.toUInt32 1 &&& Int32.toUInt32 31)).toInt32) &&& 1431655765)) >>> (Int32.toUInt32 2 &&& Int32.toUInt32 31)).toInt32) &&& 858993459)) + ((Int32.toUInt32 (((v0 - (((Int32.toUInt32 v0 >>> (Int32.toUInt32 1 &&& Int32.toUInt32 31)).toInt32) &&& 1431655765)) &&& 858993459) + (((Int32.toUInt32 (v0 - (((Int32.toUInt32 v0 >>> (Int32.toUInt32 1 &&& Int32.toUInt32 31)).toInt32) &&& 1431655765)) >>> (Int32.toUInt32 2 &&& Int32.toUInt32 31)).toInt32) &&& 858993459)) >>> (Int32.toUInt32 4 &&& Int32.toUInt32 31)).toInt32)) &&& 252645135) + ((Int32.toUInt32 (((((v0 - (((Int32.toUInt32 v0 >>> (Int32.toUInt32 1 &&& Int32.toUInt32 31)).toInt32) &&& 1431655765)) &&& 858993459) + (((Int32.toUInt32 (v0 - (((Int32.toUInt32 v0 >>> (Int32.toUInt32 1 &&& Int32.toUInt32 31)).toInt32) &&& 1431655765)) >>> (Int32.toUInt32 2 &&& Int32.toUInt32 31)).toInt32) &&& 858993459)) + ((Int32.toUInt32 (((v0 - (((Int32.toUInt32 v0 >>> (Int32.toUInt32 1 &&& Int32.toUInt32 31)).toInt32) &&& 1431655765)) &&& 858993459) + (((Int32.toUInt32 (v0 - (((Int32.toUInt32 v0 >>> (Int32.toUInt32 1 &&& Int32.toUInt32 31)).toInt32) &&& 1431655765)) >>> (Int32.toUInt32 2 &&& Int32.toUInt32 31)).toInt32) &&& 858993459)) >>> (Int32.toUInt32 4 &&& Int32.toUInt32 31)).toInt32)) &&& 252645135) >>> (Int32.toUInt32 8 &&& Int32.toUInt32 31)).toInt32)) + ((Int32.toUInt32 ((((((v0 - (((Int32.toUInt32 v0 >>> (Int32.toUInt32 1 &&& Int32.toUInt32 31)).toInt32) &&& 1431655765)) &&& 858993459) + (((Int32.toUInt32 (v0 - (((Int32.toUInt32 v0 >>> (Int32.toUInt32 1 &&& Int32.toUInt32 31)).toInt32) &&& 1431655765)) >>> (Int32.toUInt32 2 &&& Int32.toUInt32 31)).toInt32) &&& 858993459)) + ((Int32.toUInt32 (((v0 - (((Int32.toUInt32 v0 >>> (Int32.toUInt32 1 &&& Int32.toUInt32 31)).toInt32) &&& 1431655765)) &&& 858993459) + (((Int32.toUInt32 (v0 - (((Int32.toUInt32 v0 >>> (Int32.toUInt32 1 &&& Int32.toUInt32 31)).toInt32) &&& 1431655765)) >>> (Int32.toUInt32 2 &&& Int32.toUInt32 31)).toInt32) &&& 858993459)) >>> (Int32.toUInt32 4 &&& Int32.toUInt32 31)).toInt32)) &&& 252645135) + ((Int32.toUInt32 (((((v0 - (((Int32.toUInt32 v0 >>> (Int32.toUInt32 1 &&& Int32.toUInt32 31)).toInt32) &&& 1431655765)) &&& 858993459) + (((Int32.toUInt32 (v0 - (((Int32.toUInt32 v0 >>> (Int32.toUInt32 1 &&& Int32.toUInt32 31)).toInt32) &&& 1431655765)) >>> (Int32.toUInt32 2 &&& Int32.toUInt32 31)).toInt32) &&& 858993459)) + ((Int32.toUInt32 (((v0 - (((Int32.toUInt32 v0 >>> (Int32.toUInt32 1 &&& Int32.toUInt32 31)).toInt32) &&& 1431655765)) &&& 858993459) + (((Int32.toUInt32 (v0 - (((Int32.toUInt32 v0 >>> (Int32.toUInt32 1 &&& Int32.toUInt32 31)).toInt32) &&& 1431655765)) >>> (Int32.toUInt32 2 &&& Int32.toUInt32 31)).toInt32) &&& 858993459)) >>> (Int32.toUInt32 4 &&& Int32.toUInt32 31)).toInt32)) &&& 252645135) >>> (Int32.toUInt32 8 &&& Int32.toUInt32 31)).toInt32)) >>> (Int32.toUInt32 16 &&& Int32.toUInt32 31)).toInt32)) &&& 63, h)
theorem ct_J6_bitCount_0f7a4 (g : zG) (l : Launch) (v0 : Int32) : zCt g l yJ6_bitCount_0f7a4 cJ6_bitCount_0f7a4 1 (some .int) 0 0 zrI [.int v0] (dn_J6_bitCount_0f7a4 v0) := by
  refine zCt_of (lv := [(0, .int v0)]) (by decide +kernel) (Nat.le_of_ble_eq_true rfl) rfl ?_
  show zSm g l cJ6_bitCount_0f7a4 1 RJ6 "bitCount" (some .int) 0 0 zrI 0 [(0, .int v0)] [] (dn_J6_bitCount_0f7a4 v0)
  unfold dn_J6_bitCount_0f7a4
  refine z_iload_n (j := 0) (q := 1) (by decide +kernel) rfl 0 rfl ?_
  refine z_iload_n (j := 0) (q := 2) (by decide +kernel) rfl 0 rfl ?_
  refine z_iconst (n := 1) (v := 1) (q := 3) (by decide +kernel) rfl (by decide) ?_
  refine z_iushr (q := 4) (by decide +kernel) rfl ?_
  refine z_ldcw (i := 265) (v := 1431655765) (q := 7) (by decide +kernel) rfl zw634 ?_
  refine z_iand (q := 8) (by decide +kernel) rfl ?_
  refine z_isub (q := 9) (by decide +kernel) rfl ?_
  refine z_istore_n (j := 0) (q := 10) (by decide +kernel) rfl (by decide) rfl ?_
  refine z_iload_n (j := 0) (q := 11) (by decide +kernel) rfl 0 rfl ?_
  refine z_ldcw (i := 266) (v := 858993459) (q := 14) (by decide +kernel) rfl zw635 ?_
  refine z_iand (q := 15) (by decide +kernel) rfl ?_
  refine z_iload_n (j := 0) (q := 16) (by decide +kernel) rfl 0 rfl ?_
  refine z_iconst (n := 2) (v := 2) (q := 17) (by decide +kernel) rfl (by decide) ?_
  refine z_iushr (q := 18) (by decide +kernel) rfl ?_
  refine z_ldcw (i := 266) (v := 858993459) (q := 21) (by decide +kernel) rfl zw635 ?_
  refine z_iand (q := 22) (by decide +kernel) rfl ?_
  refine z_iadd (q := 23) (by decide +kernel) rfl ?_
  refine z_istore_n (j := 0) (q := 24) (by decide +kernel) rfl (by decide) rfl ?_
  refine z_iload_n (j := 0) (q := 25) (by decide +kernel) rfl 0 rfl ?_
  refine z_iload_n (j := 0) (q := 26) (by decide +kernel) rfl 0 rfl ?_
  refine z_iconst (n := 4) (v := 4) (q := 27) (by decide +kernel) rfl (by decide) ?_
  refine z_iushr (q := 28) (by decide +kernel) rfl ?_
  refine z_iadd (q := 29) (by decide +kernel) rfl ?_
  refine z_ldcw (i := 267) (v := 252645135) (q := 32) (by decide +kernel) rfl zw636 ?_
  refine z_iand (q := 33) (by decide +kernel) rfl ?_
  refine z_istore_n (j := 0) (q := 34) (by decide +kernel) rfl (by decide) rfl ?_
  refine z_iload_n (j := 0) (q := 35) (by decide +kernel) rfl 0 rfl ?_
  refine z_iload_n (j := 0) (q := 36) (by decide +kernel) rfl 0 rfl ?_
  refine z_bipush (n := 8) (v := 8) (q := 38) (by decide +kernel) rfl (by decide) ?_
  refine z_iushr (q := 39) (by decide +kernel) rfl ?_
  refine z_iadd (q := 40) (by decide +kernel) rfl ?_
  refine z_istore_n (j := 0) (q := 41) (by decide +kernel) rfl (by decide) rfl ?_
  refine z_iload_n (j := 0) (q := 42) (by decide +kernel) rfl 0 rfl ?_
  refine z_iload_n (j := 0) (q := 43) (by decide +kernel) rfl 0 rfl ?_
  refine z_bipush (n := 16) (v := 16) (q := 45) (by decide +kernel) rfl (by decide) ?_
  refine z_iushr (q := 46) (by decide +kernel) rfl ?_
  refine z_iadd (q := 47) (by decide +kernel) rfl ?_
  refine z_istore_n (j := 0) (q := 48) (by decide +kernel) rfl (by decide) rfl ?_
  refine z_iload_n (j := 0) (q := 49) (by decide +kernel) rfl 0 rfl ?_
  refine z_bipush (n := 63) (v := 63) (q := 51) (by decide +kernel) rfl (by decide) ?_
  refine z_iand (q := 52) (by decide +kernel) rfl ?_
  exact z_iret (by decide +kernel)
