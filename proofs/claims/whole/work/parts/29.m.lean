def jn_X5_isEnd_26 (w0 : Int32) : zAH → Option (Int32 × zAH) := fun h => if w0 = 0 ∨ w0 = 1 then some (w0, h) else none
theorem sj_X5_isEnd_26 (g : zG) (l : Launch) (w0 : Int32) : zSm g l cX5_isEnd 1 RX5 "isEnd" (some .boolean) 3 64 zrI 26 [] [.int w0] (jn_X5_isEnd_26 w0) := by
  unfold jn_X5_isEnd_26
  exact z_zret (by decide +kernel)
def jn_X5_isEnd_21 : zAH → Option (Int32 × zAH) := fun h => jn_X5_isEnd_26 1 h
theorem sj_X5_isEnd_21 (g : zG) (l : Launch) : zSm g l cX5_isEnd 1 RX5 "isEnd" (some .boolean) 3 64 zrI 21 [] [] (jn_X5_isEnd_21) := by
  unfold jn_X5_isEnd_21
  refine z_iconst (n := 1) (v := 1) (q := 22) (by decide +kernel) rfl (by decide) ?_
  refine z_goto (off := 4) (t := 26) (by decide +kernel) (by decide) ?_
  refine zsub [] rfl ?_
  exact sj_X5_isEnd_26 g l 1
def dn_X5_isEnd (v0 : Nat) : zAH → Option (Int32 × zAH) := fun h => (zgO 5 v0 h).bind fun _ => zbd (dn_X5_v v0 0 h) fun x1 h2 => if x1 = 60 then jn_X5_isEnd_21 h2 else zbd (dn_X5_doneMany v0 h2) fun x3 h4 => (zgI 5 12 v0 h4).bind fun x5 => if x3 = x5 then jn_X5_isEnd_21 h4 else jn_X5_isEnd_26 0 h4
theorem ct_X5_isEnd (g : zG) (l : Launch) (v0 : Nat) : zCt g l yX5_isEnd cX5_isEnd 1 (some .boolean) 3 64 zrI [.ref v0] (dn_X5_isEnd v0) := by
  refine zCt_of (lv := [(0, .ref v0)]) (by decide +kernel) (Nat.le_of_ble_eq_true rfl) rfl ?_
  show zSm g l cX5_isEnd 1 RX5 "isEnd" (some .boolean) 3 64 zrI 0 [(0, .ref v0)] [] (dn_X5_isEnd v0)
  unfold dn_X5_isEnd
  refine z_rec ?_
  refine z_aload_n (j := 0) (q := 1) (by decide +kernel) rfl 0 rfl ?_
  refine z_iconst (n := 0) (v := 0) (q := 2) (by decide +kernel) rfl (by decide) ?_
  refine z_callVI (As := [.int 0]) (st := []) (q := 5) (ct_X5_v g l v0 0) zm_RX5_190 (rc_X5_v v0 0) rfl (by decide) (by decide) (Nat.le_of_ble_eq_true rfl) rfl (by decide +kernel) rfl fun x1 => ?_
  refine z_bipush (n := 60) (v := 60) (q := 7) (by decide +kernel) rfl (by decide) ?_
  refine z_icmp_eq (off := 14) (t := 21) (q := 10) (by decide +kernel) (by decide) rfl ?_ ?_
  · refine zsub [] rfl ?_
    exact sj_X5_isEnd_21 g l 
  · refine z_aload_n (j := 0) (q := 11) (by decide +kernel) rfl 0 rfl ?_
    refine z_callVI (As := []) (st := []) (q := 14) (ct_X5_doneMany g l v0) zm_RX5_196 (rc_X5_doneMany v0) rfl (by decide) (by decide) (Nat.le_of_ble_eq_true rfl) rfl (by decide +kernel) rfl fun x3 => ?_
    refine z_aload_n (j := 0) (q := 15) (by decide +kernel) rfl 0 rfl ?_
    refine z_getI (q := 18) zf_RX5_147 (by decide +kernel) rfl fun x5 => ?_
    refine z_icmp_ne (off := 7) (t := 25) (q := 21) (by decide +kernel) (by decide) rfl ?_ ?_
    · refine z_iconst (n := 0) (v := 0) (q := 26) (by decide +kernel) rfl (by decide) ?_
      refine zsub [] rfl ?_
      exact sj_X5_isEnd_26 g l 0
    · refine zsub [] rfl ?_
      exact sj_X5_isEnd_21 g l 
theorem rc_X5_isEnd (v0 : Nat) : ∀ h x, dn_X5_isEnd v0 h = some x → ∃ fs, zgO 5 v0 h = some fs := fun h x hd => by
  obtain ⟨fs, e, -⟩ := Option.bind_eq_some_iff.mp hd
  exact ⟨fs, e⟩
def jn_X5_noChoices_20 : zAH → Option (Unit × zAH) := fun h => some ((), h)
theorem sj_X5_noChoices_20 (g : zG) (l : Launch) : zSm g l cX5_noChoices 2 RX5 "noChoices" none 0 0 zrV 20 [] [] (jn_X5_noChoices_20) := by
  unfold jn_X5_noChoices_20
  exact z_vret (by decide +kernel)
def lb_X5_noChoices_2 (v0 : Nat) (rec : (Int32) → zAH → Option (Unit × zAH)) (s : Int32) : zAH → Option (Unit × zAH) := fun h => if s < 5 then (zgA 5 31 v0 h).bind fun x1 => (zaS 0 x1 s 0 h).bind fun h2 => rec (s + 1) h2 else jn_X5_noChoices_20 h
def lp_X5_noChoices_2 (v0 : Nat) (s : Int32) : zAH → Option (Unit × zAH) := zlp (lb_X5_noChoices_2 v0) 2000 s
theorem sl_X5_noChoices_2 (g : zG) (l : Launch) (v0 : Nat) (s : Int32) : zSm g l cX5_noChoices 2 RX5 "noChoices" none 0 0 zrV 2 [(0, .ref v0), (1, .int s)] [] (lp_X5_noChoices_2 v0 s) := by
  unfold lp_X5_noChoices_2
  refine z_loop (lvf := fun s => [(0, .ref v0), (1, .int s)]) (fun rec hrec s => ?_) 2000 s
  unfold lb_X5_noChoices_2
  refine z_iload_n (j := 1) (q := 3) (by decide +kernel) rfl 1 rfl ?_
  refine z_iconst (n := 5) (v := 5) (q := 4) (by decide +kernel) rfl (by decide) ?_
  refine z_icmp_ge (off := 16) (t := 20) (q := 7) (by decide +kernel) (by decide) rfl ?_ ?_
  · refine zsub [] rfl ?_
    exact sj_X5_noChoices_20 g l 
  · refine z_aload_n (j := 0) (q := 8) (by decide +kernel) rfl 0 rfl ?_
    refine z_getA (q := 11) zf_RX5_69 (by decide +kernel) rfl fun x1 => ?_
    refine z_iload_n (j := 1) (q := 12) (by decide +kernel) rfl 1 rfl ?_
    refine z_iconst (n := 0) (v := 0) (q := 13) (by decide +kernel) rfl (by decide) ?_
    refine z_iast (q := 14) (Or.inl ⟨rfl, rfl, rfl⟩) (by decide +kernel) rfl ?_
    refine z_iinc (j := 1) (n := 1) (v := 1) (q := 17) (by decide +kernel) rfl 1 rfl (by decide) (by decide) rfl ?_
    refine z_goto (off := (-15)) (t := 2) (by decide +kernel) (by decide) ?_
    refine zsub [1, 0] rfl ?_
    exact hrec (s + 1)
def dn_X5_noChoices (v0 : Nat) : zAH → Option (Unit × zAH) := fun h => (zgO 5 v0 h).bind fun _ => lp_X5_noChoices_2 v0 0 h
theorem ct_X5_noChoices (g : zG) (l : Launch) (v0 : Nat) : zCt g l yX5_noChoices cX5_noChoices 2 none 0 0 zrV [.ref v0] (dn_X5_noChoices v0) := by
  refine zCt_of (lv := [(0, .ref v0)]) (by decide +kernel) (Nat.le_of_ble_eq_true rfl) rfl ?_
  show zSm g l cX5_noChoices 2 RX5 "noChoices" none 0 0 zrV 0 [(0, .ref v0)] [] (dn_X5_noChoices v0)
  unfold dn_X5_noChoices
  refine z_rec ?_
  refine z_iconst (n := 0) (v := 0) (q := 1) (by decide +kernel) rfl (by decide) ?_
  refine z_istore_n (j := 1) (q := 2) (by decide +kernel) rfl (by decide) rfl ?_
  refine zsub [1, 0] rfl ?_
  exact sl_X5_noChoices_2 g l v0 0
theorem rc_X5_noChoices (v0 : Nat) : ∀ h x, dn_X5_noChoices v0 h = some x → ∃ fs, zgO 5 v0 h = some fs := fun h x hd => by
  obtain ⟨fs, e, -⟩ := Option.bind_eq_some_iff.mp hd
  exact ⟨fs, e⟩
def jn_X5_wanted_62 (w0 : Int32) : zAH → Option (Int32 × zAH) := fun h => some (w0, h)
theorem sj_X5_wanted_62 (g : zG) (l : Launch) (w0 : Int32) : zSm g l cX5_wanted 3 RX5 "wanted" (some .int) 1 22 zrI 62 [] [.int w0] (jn_X5_wanted_62 w0) := by
  unfold jn_X5_wanted_62
  exact z_iret (by decide +kernel)
def dn_X5_wanted (v0 : Nat) (v1 : Int32) : zAH → Option (Int32 × zAH) := fun h => (zgO 5 v0 h).bind fun _ => zbd (dn_X5_v v0 0 h) fun x1 h2 => (zgI 5 30 v0 h2).bind fun x3 => (zgA 5 31 v0 h2).bind fun x4 => (zaI 0 x4 v1 h2).bind fun x5 => zbd (dn_X5_in (x1 - x3) 0 (x5 - 1) h2) fun x6 h7 => if x6 = 0 then (zgA 5 17 v0 h7).bind fun x8 => zbd (dn_X5_v v0 0 h7) fun x9 h10 => (zgA 5 16 v0 h10).bind fun x11 => (zaI 0 x11 v1 h10).bind fun x12 => if x12 = 0 then none else (zaI 0 x8 ((8 * v1) + (x9 % x12)) h10).bind fun x13 => jn_X5_wanted_62 x13 h10 else (zgA 5 32 v0 h7).bind fun x14 => (zaI 0 x14 ((4 * v1) + (x1 - x3)) h7).bind fun x15 => jn_X5_wanted_62 x15 h7
theorem ct_X5_wanted (g : zG) (l : Launch) (v0 : Nat) (v1 : Int32) : zCt g l yX5_wanted cX5_wanted 3 (some .int) 1 22 zrI [.ref v0, .int v1] (dn_X5_wanted v0 v1) := by
  refine zCt_of (lv := [(0, .ref v0), (1, .int v1)]) (by decide +kernel) (Nat.le_of_ble_eq_true rfl) rfl ?_
  show zSm g l cX5_wanted 3 RX5 "wanted" (some .int) 1 22 zrI 0 [(0, .ref v0), (1, .int v1)] [] (dn_X5_wanted v0 v1)
  unfold dn_X5_wanted
  refine z_rec ?_
  refine z_aload_n (j := 0) (q := 1) (by decide +kernel) rfl 0 rfl ?_
  refine z_iconst (n := 0) (v := 0) (q := 2) (by decide +kernel) rfl (by decide) ?_
  refine z_callVI (As := [.int 0]) (st := []) (q := 5) (ct_X5_v g l v0 0) zm_RX5_190 (rc_X5_v v0 0) rfl (by decide) (by decide) (Nat.le_of_ble_eq_true rfl) rfl (by decide +kernel) rfl fun x1 => ?_
  refine z_aload_n (j := 0) (q := 6) (by decide +kernel) rfl 0 rfl ?_
  refine z_getI (q := 9) zf_RX5_199 (by decide +kernel) rfl fun x3 => ?_
  refine z_isub (q := 10) (by decide +kernel) rfl ?_
  refine z_istore_n (j := 2) (q := 11) (by decide +kernel) rfl (by decide) rfl ?_
  refine z_iload_n (j := 2) (q := 12) (by decide +kernel) rfl 0 rfl ?_
  refine z_iconst (n := 0) (v := 0) (q := 13) (by decide +kernel) rfl (by decide) ?_
  refine z_aload_n (j := 0) (q := 14) (by decide +kernel) rfl 1 rfl ?_
  refine z_getA (q := 17) zf_RX5_69 (by decide +kernel) rfl fun x4 => ?_
  refine z_iload_n (j := 1) (q := 18) (by decide +kernel) rfl 2 rfl ?_
  refine z_iald (q := 19) (Or.inl ⟨rfl, rfl⟩) (by decide +kernel) rfl fun x5 => ?_
  refine z_iconst (n := 1) (v := 1) (q := 20) (by decide +kernel) rfl (by decide) ?_
  refine z_isub (q := 21) (by decide +kernel) rfl ?_
  refine z_callSI (As := [.int (x1 - x3), .int 0, .int (x5 - 1)]) (st := []) (q := 24) (ct_X5_in g l (x1 - x3) 0 (x5 - 1)) zm_RX5_86 rfl (by decide) (by decide) (Nat.le_of_ble_eq_true rfl) rfl (by decide +kernel) rfl fun x6 => ?_
  refine z_if_eq (off := 16) (t := 40) (q := 27) (by decide +kernel) (by decide) rfl ?_ ?_
  · refine z_aload_n (j := 0) (q := 41) (by decide +kernel) rfl 1 rfl ?_
    refine z_getA (q := 44) zf_RX5_44 (by decide +kernel) rfl fun x8 => ?_
    refine z_bipush (n := 8) (v := 8) (q := 46) (by decide +kernel) rfl (by decide) ?_
    refine z_iload_n (j := 1) (q := 47) (by decide +kernel) rfl 2 rfl ?_
    refine z_imul (q := 48) (by decide +kernel) rfl ?_
    refine z_aload_n (j := 0) (q := 49) (by decide +kernel) rfl 1 rfl ?_
    refine z_iconst (n := 0) (v := 0) (q := 50) (by decide +kernel) rfl (by decide) ?_
    refine z_callVI (As := [.int 0]) (st := [.int (8 * v1), .ref x8]) (q := 53) (ct_X5_v g l v0 0) zm_RX5_190 (rc_X5_v v0 0) rfl (by decide) (by decide) (Nat.le_of_ble_eq_true rfl) rfl (by decide +kernel) rfl fun x9 => ?_
    refine z_aload_n (j := 0) (q := 54) (by decide +kernel) rfl 1 rfl ?_
    refine z_getA (q := 57) zf_RX5_41 (by decide +kernel) rfl fun x11 => ?_
    refine z_iload_n (j := 1) (q := 58) (by decide +kernel) rfl 2 rfl ?_
    refine z_iald (q := 59) (Or.inl ⟨rfl, rfl⟩) (by decide +kernel) rfl fun x12 => ?_
    refine z_irem (q := 60) (by decide +kernel) rfl ?_
    refine z_iadd (q := 61) (by decide +kernel) rfl ?_
    refine z_iald (q := 62) (Or.inl ⟨rfl, rfl⟩) (by decide +kernel) rfl fun x13 => ?_
    refine zsub [] rfl ?_
    exact sj_X5_wanted_62 g l x13
  · refine z_aload_n (j := 0) (q := 28) (by decide +kernel) rfl 1 rfl ?_
    refine z_getA (q := 31) zf_RX5_72 (by decide +kernel) rfl fun x14 => ?_
    refine z_iconst (n := 4) (v := 4) (q := 32) (by decide +kernel) rfl (by decide) ?_
    refine z_iload_n (j := 1) (q := 33) (by decide +kernel) rfl 2 rfl ?_
    refine z_imul (q := 34) (by decide +kernel) rfl ?_
    refine z_iload_n (j := 2) (q := 35) (by decide +kernel) rfl 0 rfl ?_
    refine z_iadd (q := 36) (by decide +kernel) rfl ?_
    refine z_iald (q := 37) (Or.inl ⟨rfl, rfl⟩) (by decide +kernel) rfl fun x15 => ?_
    refine z_goto (off := 25) (t := 62) (by decide +kernel) (by decide) ?_
    refine zsub [] rfl ?_
    exact sj_X5_wanted_62 g l x15
theorem rc_X5_wanted (v0 : Nat) (v1 : Int32) : ∀ h x, dn_X5_wanted v0 v1 h = some x → ∃ fs, zgO 5 v0 h = some fs := fun h x hd => by
  obtain ⟨fs, e, -⟩ := Option.bind_eq_some_iff.mp hd
  exact ⟨fs, e⟩
def jn_X5_breathBy_141 (v0 : Nat) (v1 : Int32) (v4 : Int32) (v5 : Int32) : zAH → Option (Int32 × zAH) := fun h => zbd (dn_X5_v v0 (28 + v1) h) fun x1 h2 => zbd (dn_X5_v v0 (8 + v1) h2) fun x3 h4 => zbd (dn_X5_lesser x1 ((x3 + v4) - v5) h4) fun x5 h6 => some (x5, h6)
theorem sj_X5_breathBy_141 (g : zG) (l : Launch) (v0 : Nat) (v1 : Int32) (v4 : Int32) (v5 : Int32) : zSm g l cX5_breathBy 6 RX5 "breathBy" (some .int) 1 21 zrI 141 [(0, .ref v0), (1, .int v1), (4, .int v4), (5, .int v5)] [] (jn_X5_breathBy_141 v0 v1 v4 v5) := by
  unfold jn_X5_breathBy_141
  refine z_aload_n (j := 0) (q := 142) (by decide +kernel) rfl 0 rfl ?_
  refine z_bipush (n := 28) (v := 28) (q := 144) (by decide +kernel) rfl (by decide) ?_
  refine z_iload_n (j := 1) (q := 145) (by decide +kernel) rfl 1 rfl ?_
  refine z_iadd (q := 146) (by decide +kernel) rfl ?_
  refine z_callVI (As := [.int (28 + v1)]) (st := []) (q := 149) (ct_X5_v g l v0 (28 + v1)) zm_RX5_190 (rc_X5_v v0 (28 + v1)) rfl (by decide) (by decide) (Nat.le_of_ble_eq_true rfl) rfl (by decide +kernel) rfl fun x1 => ?_
  refine z_aload_n (j := 0) (q := 150) (by decide +kernel) rfl 0 rfl ?_
  refine z_bipush (n := 8) (v := 8) (q := 152) (by decide +kernel) rfl (by decide) ?_
  refine z_iload_n (j := 1) (q := 153) (by decide +kernel) rfl 1 rfl ?_
  refine z_iadd (q := 154) (by decide +kernel) rfl ?_
  refine z_callVI (As := [.int (8 + v1)]) (st := [.int x1]) (q := 157) (ct_X5_v g l v0 (8 + v1)) zm_RX5_190 (rc_X5_v v0 (8 + v1)) rfl (by decide) (by decide) (Nat.le_of_ble_eq_true rfl) rfl (by decide +kernel) rfl fun x3 => ?_
  refine z_iload (j := 4) (q := 159) (by decide +kernel) rfl 2 rfl ?_
  refine z_iadd (q := 160) (by decide +kernel) rfl ?_
  refine z_iload (j := 5) (q := 162) (by decide +kernel) rfl 3 rfl ?_
  refine z_isub (q := 163) (by decide +kernel) rfl ?_
  refine z_callSI (As := [.int x1, .int ((x3 + v4) - v5)]) (st := []) (q := 166) (ct_X5_lesser g l x1 ((x3 + v4) - v5)) zm_RX5_202 rfl (by decide) (by decide) (Nat.le_of_ble_eq_true rfl) rfl (by decide +kernel) rfl fun x5 => ?_
  exact z_iret (by decide +kernel)
def jn_X5_breathBy_138 (v0 : Nat) (v1 : Int32) (v4 : Int32) (w0 : Int32) (w1 : Int32) : zAH → Option (Int32 × zAH) := fun h => jn_X5_breathBy_141 v0 v1 v4 (w0 - w1) h
theorem sj_X5_breathBy_138 (g : zG) (l : Launch) (v0 : Nat) (v1 : Int32) (v4 : Int32) (w0 : Int32) (w1 : Int32) : zSm g l cX5_breathBy 6 RX5 "breathBy" (some .int) 1 21 zrI 138 [(0, .ref v0), (1, .int v1), (4, .int v4)] [.int w1, .int w0] (jn_X5_breathBy_138 v0 v1 v4 w0 w1) := by
  unfold jn_X5_breathBy_138
  refine z_isub (q := 139) (by decide +kernel) rfl ?_
  refine z_istore (j := 5) (q := 141) (by decide +kernel) rfl (by decide) rfl ?_
  refine zsub [1, 2, 3, 0] rfl ?_
  exact sj_X5_breathBy_141 g l v0 v1 v4 (w0 - w1)
def jn_X5_breathBy_137 (v0 : Nat) (v1 : Int32) (v4 : Int32) (w0 : Int32) : zAH → Option (Int32 × zAH) := fun h => jn_X5_breathBy_138 v0 v1 v4 w0 0 h
theorem sj_X5_breathBy_137 (g : zG) (l : Launch) (v0 : Nat) (v1 : Int32) (v4 : Int32) (w0 : Int32) : zSm g l cX5_breathBy 6 RX5 "breathBy" (some .int) 1 21 zrI 137 [(0, .ref v0), (1, .int v1), (4, .int v4)] [.int w0] (jn_X5_breathBy_137 v0 v1 v4 w0) := by
  unfold jn_X5_breathBy_137
  refine z_iconst (n := 0) (v := 0) (q := 138) (by decide +kernel) rfl (by decide) ?_
  refine zsub [0, 1, 2] rfl ?_
  exact sj_X5_breathBy_138 g l v0 v1 v4 w0 0
def jn_X5_breathBy_118 (v0 : Nat) (v1 : Int32) (v2 : Int32) (v3 : Int32) (v4 : Int32) (w0 : Int32) (w1 : Int32) : zAH → Option (Int32 × zAH) := fun h => if 1 < v2 then if v3 = ((-1)) then jn_X5_breathBy_138 v0 v1 v4 (w0 + w1) 1 h else jn_X5_breathBy_137 v0 v1 v4 (w0 + w1) h else jn_X5_breathBy_137 v0 v1 v4 (w0 + w1) h
theorem sj_X5_breathBy_118 (g : zG) (l : Launch) (v0 : Nat) (v1 : Int32) (v2 : Int32) (v3 : Int32) (v4 : Int32) (w0 : Int32) (w1 : Int32) : zSm g l cX5_breathBy 6 RX5 "breathBy" (some .int) 1 21 zrI 118 [(0, .ref v0), (1, .int v1), (2, .int v2), (3, .int v3), (4, .int v4)] [.int w1, .int w0] (jn_X5_breathBy_118 v0 v1 v2 v3 v4 w0 w1) := by
  unfold jn_X5_breathBy_118
  refine z_iadd (q := 119) (by decide +kernel) rfl ?_
  refine z_istore (j := 5) (q := 121) (by decide +kernel) rfl (by decide) rfl ?_
  refine z_iload (j := 5) (q := 123) (by decide +kernel) rfl 0 rfl ?_
  refine z_iload_n (j := 2) (q := 124) (by decide +kernel) rfl 3 rfl ?_
  refine z_iconst (n := 1) (v := 1) (q := 125) (by decide +kernel) rfl (by decide) ?_
  refine z_icmp_le (off := 12) (t := 137) (q := 128) (by decide +kernel) (by decide) rfl ?_ ?_
  · refine zsub [1, 2, 5] rfl ?_
    exact sj_X5_breathBy_137 g l v0 v1 v4 (w0 + w1)
  · refine z_iload_n (j := 3) (q := 129) (by decide +kernel) rfl 4 rfl ?_
    refine z_iconst (n := (-1)) (v := (-1)) (q := 130) (by decide +kernel) rfl (by decide) ?_
    refine z_icmp_ne (off := 7) (t := 137) (q := 133) (by decide +kernel) (by decide) rfl ?_ ?_
    · refine zsub [1, 2, 5] rfl ?_
      exact sj_X5_breathBy_137 g l v0 v1 v4 (w0 + w1)
    · refine z_iconst (n := 1) (v := 1) (q := 134) (by decide +kernel) rfl (by decide) ?_
      refine z_goto (off := 4) (t := 138) (by decide +kernel) (by decide) ?_
      refine zsub [1, 2, 5] rfl ?_
      exact sj_X5_breathBy_138 g l v0 v1 v4 (w0 + w1) 1
def jn_X5_breathBy_117 (v0 : Nat) (v1 : Int32) (v2 : Int32) (v3 : Int32) (v4 : Int32) (w0 : Int32) : zAH → Option (Int32 × zAH) := fun h => jn_X5_breathBy_118 v0 v1 v2 v3 v4 w0 0 h
theorem sj_X5_breathBy_117 (g : zG) (l : Launch) (v0 : Nat) (v1 : Int32) (v2 : Int32) (v3 : Int32) (v4 : Int32) (w0 : Int32) : zSm g l cX5_breathBy 6 RX5 "breathBy" (some .int) 1 21 zrI 117 [(0, .ref v0), (1, .int v1), (2, .int v2), (3, .int v3), (4, .int v4)] [.int w0] (jn_X5_breathBy_117 v0 v1 v2 v3 v4 w0) := by
  unfold jn_X5_breathBy_117
  refine z_iconst (n := 0) (v := 0) (q := 118) (by decide +kernel) rfl (by decide) ?_
  refine zsub [0, 1, 2, 3, 4] rfl ?_
  exact sj_X5_breathBy_118 g l v0 v1 v2 v3 v4 w0 0
def jn_X5_breathBy_91 (v0 : Nat) (v1 : Int32) (v2 : Int32) (v3 : Int32) (v4 : Int32) (w0 : Int32) (w1 : Int32) : zAH → Option (Int32 × zAH) := fun h => zbd (dn_X5_v v0 1 h) fun x1 h2 => if x1 = v1 then zbd (dn_X5_isOx v0 v1 h2) fun x3 h4 => if x3 = 0 then jn_X5_breathBy_118 v0 v1 v2 v3 v4 (w0 + w1) 1 h4 else jn_X5_breathBy_117 v0 v1 v2 v3 v4 (w0 + w1) h4 else jn_X5_breathBy_117 v0 v1 v2 v3 v4 (w0 + w1) h2
theorem sj_X5_breathBy_91 (g : zG) (l : Launch) (v0 : Nat) (v1 : Int32) (v2 : Int32) (v3 : Int32) (v4 : Int32) (w0 : Int32) (w1 : Int32) : zSm g l cX5_breathBy 6 RX5 "breathBy" (some .int) 1 21 zrI 91 [(0, .ref v0), (1, .int v1), (2, .int v2), (3, .int v3), (4, .int v4)] [.int w1, .int w0] (jn_X5_breathBy_91 v0 v1 v2 v3 v4 w0 w1) := by
  unfold jn_X5_breathBy_91
  refine z_iadd (q := 92) (by decide +kernel) rfl ?_
  refine z_istore (j := 5) (q := 94) (by decide +kernel) rfl (by decide) rfl ?_
  refine z_iload (j := 5) (q := 96) (by decide +kernel) rfl 0 rfl ?_
  refine z_aload_n (j := 0) (q := 97) (by decide +kernel) rfl 1 rfl ?_
  refine z_iconst (n := 1) (v := 1) (q := 98) (by decide +kernel) rfl (by decide) ?_
  refine z_callVI (As := [.int 1]) (st := [.int (w0 + w1)]) (q := 101) (ct_X5_v g l v0 1) zm_RX5_190 (rc_X5_v v0 1) rfl (by decide) (by decide) (Nat.le_of_ble_eq_true rfl) rfl (by decide +kernel) rfl fun x1 => ?_
  refine z_iload_n (j := 1) (q := 102) (by decide +kernel) rfl 2 rfl ?_
  refine z_icmp_ne (off := 15) (t := 117) (q := 105) (by decide +kernel) (by decide) rfl ?_ ?_
  · refine zsub [1, 2, 3, 4, 5] rfl ?_
    exact sj_X5_breathBy_117 g l v0 v1 v2 v3 v4 (w0 + w1)
  · refine z_aload_n (j := 0) (q := 106) (by decide +kernel) rfl 1 rfl ?_
    refine z_iload_n (j := 1) (q := 107) (by decide +kernel) rfl 2 rfl ?_
    refine z_callVI (As := [.int v1]) (st := [.int (w0 + w1)]) (q := 110) (ct_X5_isOx g l v0 v1) zm_RX5_169 (rc_X5_isOx v0 v1) rfl (by decide) (by decide) (Nat.le_of_ble_eq_true rfl) rfl (by decide +kernel) rfl fun x3 => ?_
    refine z_if_ne (off := 7) (t := 117) (q := 113) (by decide +kernel) (by decide) rfl ?_ ?_
    · refine zsub [1, 2, 3, 4, 5] rfl ?_
      exact sj_X5_breathBy_117 g l v0 v1 v2 v3 v4 (w0 + w1)
    · refine z_iconst (n := 1) (v := 1) (q := 114) (by decide +kernel) rfl (by decide) ?_
      refine z_goto (off := 4) (t := 118) (by decide +kernel) (by decide) ?_
      refine zsub [1, 2, 3, 4, 5] rfl ?_
      exact sj_X5_breathBy_118 g l v0 v1 v2 v3 v4 (w0 + w1) 1
def jn_X5_breathBy_90 (v0 : Nat) (v1 : Int32) (v2 : Int32) (v3 : Int32) (v4 : Int32) (w0 : Int32) : zAH → Option (Int32 × zAH) := fun h => jn_X5_breathBy_91 v0 v1 v2 v3 v4 w0 0 h
theorem sj_X5_breathBy_90 (g : zG) (l : Launch) (v0 : Nat) (v1 : Int32) (v2 : Int32) (v3 : Int32) (v4 : Int32) (w0 : Int32) : zSm g l cX5_breathBy 6 RX5 "breathBy" (some .int) 1 21 zrI 90 [(0, .ref v0), (1, .int v1), (2, .int v2), (3, .int v3), (4, .int v4)] [.int w0] (jn_X5_breathBy_90 v0 v1 v2 v3 v4 w0) := by
  unfold jn_X5_breathBy_90
  refine z_iconst (n := 0) (v := 0) (q := 91) (by decide +kernel) rfl (by decide) ?_
  refine zsub [0, 1, 2, 3, 4] rfl ?_
  exact sj_X5_breathBy_91 g l v0 v1 v2 v3 v4 w0 0
def jn_X5_breathBy_66 (v0 : Nat) (v1 : Int32) (v2 : Int32) (v3 : Int32) (v4 : Int32) (w0 : Int32) : zAH → Option (Int32 × zAH) := fun h => if 0 < v2 then if 0 < v3 then zbd (dn_X5_isGoat v0 v1 h) fun x1 h2 => if x1 = 0 then jn_X5_breathBy_91 v0 v1 v2 v3 v4 w0 v3 h2 else jn_X5_breathBy_90 v0 v1 v2 v3 v4 w0 h2 else jn_X5_breathBy_90 v0 v1 v2 v3 v4 w0 h else jn_X5_breathBy_141 v0 v1 v4 w0 h
theorem sj_X5_breathBy_66 (g : zG) (l : Launch) (v0 : Nat) (v1 : Int32) (v2 : Int32) (v3 : Int32) (v4 : Int32) (w0 : Int32) : zSm g l cX5_breathBy 6 RX5 "breathBy" (some .int) 1 21 zrI 66 [(0, .ref v0), (1, .int v1), (2, .int v2), (3, .int v3), (4, .int v4)] [.int w0] (jn_X5_breathBy_66 v0 v1 v2 v3 v4 w0) := by
  unfold jn_X5_breathBy_66
  refine z_istore (j := 5) (q := 68) (by decide +kernel) rfl (by decide) rfl ?_
  refine z_iload_n (j := 2) (q := 69) (by decide +kernel) rfl 3 rfl ?_
  refine z_if_le (off := 72) (t := 141) (q := 72) (by decide +kernel) (by decide) rfl ?_ ?_
  · refine zsub [1, 2, 5, 0] rfl ?_
    exact sj_X5_breathBy_141 g l v0 v1 v4 w0
  · refine z_iload (j := 5) (q := 74) (by decide +kernel) rfl 0 rfl ?_
    refine z_iload_n (j := 3) (q := 75) (by decide +kernel) rfl 4 rfl ?_
    refine z_if_le (off := 15) (t := 90) (q := 78) (by decide +kernel) (by decide) rfl ?_ ?_
    · refine zsub [1, 2, 3, 4, 5] rfl ?_
      exact sj_X5_breathBy_90 g l v0 v1 v2 v3 v4 w0
    · refine z_aload_n (j := 0) (q := 79) (by decide +kernel) rfl 1 rfl ?_
      refine z_iload_n (j := 1) (q := 80) (by decide +kernel) rfl 2 rfl ?_
      refine z_callVI (As := [.int v1]) (st := [.int w0]) (q := 83) (ct_X5_isGoat g l v0 v1) zm_RX5_166 (rc_X5_isGoat v0 v1) rfl (by decide) (by decide) (Nat.le_of_ble_eq_true rfl) rfl (by decide +kernel) rfl fun x1 => ?_
      refine z_if_ne (off := 7) (t := 90) (q := 86) (by decide +kernel) (by decide) rfl ?_ ?_
      · refine zsub [1, 2, 3, 4, 5] rfl ?_
        exact sj_X5_breathBy_90 g l v0 v1 v2 v3 v4 w0
      · refine z_iload_n (j := 3) (q := 87) (by decide +kernel) rfl 4 rfl ?_
        refine z_goto (off := 4) (t := 91) (by decide +kernel) (by decide) ?_
        refine zsub [1, 2, 3, 4, 5] rfl ?_
        exact sj_X5_breathBy_91 g l v0 v1 v2 v3 v4 w0 v3
def jn_X5_breathBy_45 (v0 : Nat) (v1 : Int32) (v2 : Int32) (v3 : Int32) (w0 : Int32) : zAH → Option (Int32 × zAH) := fun h => if v2 = 2 then jn_X5_breathBy_66 v0 v1 v2 v3 w0 1 h else if v2 = 3 then jn_X5_breathBy_66 v0 v1 v2 v3 w0 3 h else jn_X5_breathBy_66 v0 v1 v2 v3 w0 0 h
theorem sj_X5_breathBy_45 (g : zG) (l : Launch) (v0 : Nat) (v1 : Int32) (v2 : Int32) (v3 : Int32) (w0 : Int32) : zSm g l cX5_breathBy 6 RX5 "breathBy" (some .int) 1 21 zrI 45 [(0, .ref v0), (1, .int v1), (2, .int v2), (3, .int v3)] [.int w0] (jn_X5_breathBy_45 v0 v1 v2 v3 w0) := by
  unfold jn_X5_breathBy_45
  refine z_istore (j := 4) (q := 47) (by decide +kernel) rfl (by decide) rfl ?_
  refine z_iload_n (j := 2) (q := 48) (by decide +kernel) rfl 3 rfl ?_
  refine z_iconst (n := 2) (v := 2) (q := 49) (by decide +kernel) rfl (by decide) ?_
  refine z_icmp_ne (off := 7) (t := 56) (q := 52) (by decide +kernel) (by decide) rfl ?_ ?_
  · refine z_iload_n (j := 2) (q := 57) (by decide +kernel) rfl 3 rfl ?_
    refine z_iconst (n := 3) (v := 3) (q := 58) (by decide +kernel) rfl (by decide) ?_
    refine z_icmp_ne (off := 7) (t := 65) (q := 61) (by decide +kernel) (by decide) rfl ?_ ?_
    · refine z_iconst (n := 0) (v := 0) (q := 66) (by decide +kernel) rfl (by decide) ?_
      refine zsub [1, 2, 3, 4, 0] rfl ?_
      exact sj_X5_breathBy_66 g l v0 v1 v2 v3 w0 0
    · refine z_iconst (n := 3) (v := 3) (q := 62) (by decide +kernel) rfl (by decide) ?_
      refine z_goto (off := 4) (t := 66) (by decide +kernel) (by decide) ?_
      refine zsub [1, 2, 3, 4, 0] rfl ?_
      exact sj_X5_breathBy_66 g l v0 v1 v2 v3 w0 3
  · refine z_iconst (n := 1) (v := 1) (q := 53) (by decide +kernel) rfl (by decide) ?_
    refine z_goto (off := 13) (t := 66) (by decide +kernel) (by decide) ?_
    refine zsub [1, 2, 3, 4, 0] rfl ?_
    exact sj_X5_breathBy_66 g l v0 v1 v2 v3 w0 1
def dn_X5_breathBy (v0 : Nat) (v1 : Int32) (v2 : Int32) : zAH → Option (Int32 × zAH) := fun h => (zgO 5 v0 h).bind fun _ => (zgA 5 11 v0 h).bind fun x1 => zbd (dn_X5_v v0 (3 + v1) h) fun x2 h3 => (zaI 0 x1 x2 h3).bind fun x4 => if v2 = 0 then (zgA 5 13 v0 h3).bind fun x5 => (zaI 0 x5 v1 h3).bind fun x6 => if x6 = 4 then jn_X5_breathBy_45 v0 v1 v2 x4 3 h3 else jn_X5_breathBy_45 v0 v1 v2 x4 2 h3 else if v2 = 1 then jn_X5_breathBy_45 v0 v1 v2 x4 1 h3 else jn_X5_breathBy_45 v0 v1 v2 x4 0 h3
theorem ct_X5_breathBy (g : zG) (l : Launch) (v0 : Nat) (v1 : Int32) (v2 : Int32) : zCt g l yX5_breathBy cX5_breathBy 6 (some .int) 1 21 zrI [.ref v0, .int v1, .int v2] (dn_X5_breathBy v0 v1 v2) := by
  refine zCt_of (lv := [(0, .ref v0), (1, .int v1), (2, .int v2)]) (by decide +kernel) (Nat.le_of_ble_eq_true rfl) rfl ?_
  show zSm g l cX5_breathBy 6 RX5 "breathBy" (some .int) 1 21 zrI 0 [(0, .ref v0), (1, .int v1), (2, .int v2)] [] (dn_X5_breathBy v0 v1 v2)
  unfold dn_X5_breathBy
  refine z_rec ?_
  refine z_aload_n (j := 0) (q := 1) (by decide +kernel) rfl 0 rfl ?_
  refine z_getA (q := 4) zf_RX5_29 (by decide +kernel) rfl fun x1 => ?_
  refine z_aload_n (j := 0) (q := 5) (by decide +kernel) rfl 0 rfl ?_
  refine z_iconst (n := 3) (v := 3) (q := 6) (by decide +kernel) rfl (by decide) ?_
  refine z_iload_n (j := 1) (q := 7) (by decide +kernel) rfl 1 rfl ?_
  refine z_iadd (q := 8) (by decide +kernel) rfl ?_
  refine z_callVI (As := [.int (3 + v1)]) (st := [.ref x1]) (q := 11) (ct_X5_v g l v0 (3 + v1)) zm_RX5_190 (rc_X5_v v0 (3 + v1)) rfl (by decide) (by decide) (Nat.le_of_ble_eq_true rfl) rfl (by decide +kernel) rfl fun x2 => ?_
  refine z_iald (q := 12) (Or.inl ⟨rfl, rfl⟩) (by decide +kernel) rfl fun x4 => ?_
  refine z_istore_n (j := 3) (q := 13) (by decide +kernel) rfl (by decide) rfl ?_
  refine z_iload_n (j := 2) (q := 14) (by decide +kernel) rfl 3 rfl ?_
  refine z_if_ne (off := 21) (t := 35) (q := 17) (by decide +kernel) (by decide) rfl ?_ ?_
  · refine z_iload_n (j := 2) (q := 36) (by decide +kernel) rfl 3 rfl ?_
    refine z_iconst (n := 1) (v := 1) (q := 37) (by decide +kernel) rfl (by decide) ?_
    refine z_icmp_ne (off := 7) (t := 44) (q := 40) (by decide +kernel) (by decide) rfl ?_ ?_
    · refine z_iconst (n := 0) (v := 0) (q := 45) (by decide +kernel) rfl (by decide) ?_
      refine zsub [1, 2, 3, 0] rfl ?_
      exact sj_X5_breathBy_45 g l v0 v1 v2 x4 0
    · refine z_iconst (n := 1) (v := 1) (q := 41) (by decide +kernel) rfl (by decide) ?_
      refine z_goto (off := 4) (t := 45) (by decide +kernel) (by decide) ?_
      refine zsub [1, 2, 3, 0] rfl ?_
      exact sj_X5_breathBy_45 g l v0 v1 v2 x4 1
  · refine z_aload_n (j := 0) (q := 18) (by decide +kernel) rfl 1 rfl ?_
    refine z_getA (q := 21) zf_RX5_32 (by decide +kernel) rfl fun x5 => ?_
    refine z_iload_n (j := 1) (q := 22) (by decide +kernel) rfl 2 rfl ?_
    refine z_iald (q := 23) (Or.inl ⟨rfl, rfl⟩) (by decide +kernel) rfl fun x6 => ?_
    refine z_iconst (n := 4) (v := 4) (q := 24) (by decide +kernel) rfl (by decide) ?_
    refine z_icmp_ne (off := 7) (t := 31) (q := 27) (by decide +kernel) (by decide) rfl ?_ ?_
    · refine z_iconst (n := 2) (v := 2) (q := 32) (by decide +kernel) rfl (by decide) ?_
      refine z_goto (off := 13) (t := 45) (by decide +kernel) (by decide) ?_
      refine zsub [1, 2, 3, 0] rfl ?_
      exact sj_X5_breathBy_45 g l v0 v1 v2 x4 2
    · refine z_iconst (n := 3) (v := 3) (q := 28) (by decide +kernel) rfl (by decide) ?_
      refine z_goto (off := 17) (t := 45) (by decide +kernel) (by decide) ?_
      refine zsub [1, 2, 3, 0] rfl ?_
      exact sj_X5_breathBy_45 g l v0 v1 v2 x4 3
theorem rc_X5_breathBy (v0 : Nat) (v1 : Int32) (v2 : Int32) : ∀ h x, dn_X5_breathBy v0 v1 v2 h = some x → ∃ fs, zgO 5 v0 h = some fs := fun h x hd => by
  obtain ⟨fs, e, -⟩ := Option.bind_eq_some_iff.mp hd
  exact ⟨fs, e⟩
def jn_X5_passes_103 : zAH → Option (Unit × zAH) := fun h => some ((), h)
theorem sj_X5_passes_103 (g : zG) (l : Launch) : zSm g l cX5_passes 5 RX5 "passes" none 2 42 zrV 103 [] [] (jn_X5_passes_103) := by
  unfold jn_X5_passes_103
  exact z_vret (by decide +kernel)
def jn_X5_passes_78 (v0 : Nat) (v2 : Int32) (w0 : Int32) : zAH → Option (Unit × zAH) := fun h => if w0 = 0 then jn_X5_passes_103 h else zbd (dn_X5_v v0 1 h) fun x1 h2 => zbd (dn_X5_isDone v0 x1 h2) fun x3 h4 => if x3 = 0 then zbd (dn_X5_put_ v0 1 v2 h4) fun x5 h6 => jn_X5_passes_103 h6 else jn_X5_passes_103 h4
theorem sj_X5_passes_78 (g : zG) (l : Launch) (v0 : Nat) (v2 : Int32) (w0 : Int32) : zSm g l cX5_passes 5 RX5 "passes" none 2 42 zrV 78 [(0, .ref v0), (2, .int v2)] [.int w0] (jn_X5_passes_78 v0 v2 w0) := by
  unfold jn_X5_passes_78
  refine z_istore (j := 4) (q := 80) (by decide +kernel) rfl (by decide) rfl ?_
  refine z_iload (j := 4) (q := 82) (by decide +kernel) rfl 0 rfl ?_
  refine z_if_eq (off := 21) (t := 103) (q := 85) (by decide +kernel) (by decide) rfl ?_ ?_
  · refine zsub [] rfl ?_
    exact sj_X5_passes_103 g l 
  · refine z_aload_n (j := 0) (q := 86) (by decide +kernel) rfl 1 rfl ?_
    refine z_aload_n (j := 0) (q := 87) (by decide +kernel) rfl 1 rfl ?_
    refine z_iconst (n := 1) (v := 1) (q := 88) (by decide +kernel) rfl (by decide) ?_
    refine z_callVI (As := [.int 1]) (st := [.ref v0]) (q := 91) (ct_X5_v g l v0 1) zm_RX5_190 (rc_X5_v v0 1) rfl (by decide) (by decide) (Nat.le_of_ble_eq_true rfl) rfl (by decide +kernel) rfl fun x1 => ?_
    refine z_callVI (As := [.int x1]) (st := []) (q := 94) (ct_X5_isDone g l v0 x1) zm_RX5_193 (rc_X5_isDone v0 x1) rfl (by decide) (by decide) (Nat.le_of_ble_eq_true rfl) rfl (by decide +kernel) rfl fun x3 => ?_
    refine z_if_ne (off := 9) (t := 103) (q := 97) (by decide +kernel) (by decide) rfl ?_ ?_
    · refine zsub [] rfl ?_
      exact sj_X5_passes_103 g l 
    · refine z_aload_n (j := 0) (q := 98) (by decide +kernel) rfl 1 rfl ?_
      refine z_iconst (n := 1) (v := 1) (q := 99) (by decide +kernel) rfl (by decide) ?_
      refine z_iload_n (j := 2) (q := 100) (by decide +kernel) rfl 2 rfl ?_
      refine z_callVU (As := [.int 1, .int v2]) (st := []) (q := 103) (ct_X5_put_ g l v0 1 v2) zm_RX5_182 (rc_X5_put_ v0 1 v2) rfl (by decide) (by decide) (Nat.le_of_ble_eq_true rfl) rfl (by decide +kernel) rfl fun x5 => ?_
      refine zsub [] rfl ?_
      exact sj_X5_passes_103 g l 
def jn_X5_passes_73 (v0 : Nat) (v2 : Int32) : zAH → Option (Unit × zAH) := fun h => jn_X5_passes_78 v0 v2 1 h
theorem sj_X5_passes_73 (g : zG) (l : Launch) (v0 : Nat) (v2 : Int32) : zSm g l cX5_passes 5 RX5 "passes" none 2 42 zrV 73 [(0, .ref v0), (2, .int v2)] [] (jn_X5_passes_73 v0 v2) := by
  unfold jn_X5_passes_73
  refine z_iconst (n := 1) (v := 1) (q := 74) (by decide +kernel) rfl (by decide) ?_
  refine z_goto (off := 4) (t := 78) (by decide +kernel) (by decide) ?_
  refine zsub [0, 1] rfl ?_
  exact sj_X5_passes_78 g l v0 v2 1
def dn_X5_passes (v0 : Nat) (v1 : Int32) (v2 : Int32) (v3 : Int32) : zAH → Option (Unit × zAH) := fun h => (zgO 5 v0 h).bind fun _ => zbd (dn_X5_v v0 2 h) fun x1 h2 => zbd (dn_X5_put_ v0 2 (x1 + 1) h2) fun x3 h4 => zbd (dn_X5_v v0 (23 + v1) h4) fun x5 h6 => zbd (dn_X5_put_ v0 (23 + v1) (x5 ||| (1 <<< (v2 &&& 31))) h6) fun x7 h8 => (zgI 5 18 v0 h8).bind fun x9 => if x9 = 1 then zbd (dn_X5_v v0 1 h8) fun x13 h14 => if x13 = v1 then jn_X5_passes_78 v0 v2 1 h14 else jn_X5_passes_78 v0 v2 0 h14 else (zgI 5 18 v0 h8).bind fun x10 => if x10 = 0 then jn_X5_passes_73 v0 v2 h8 else (zgA 5 11 v0 h8).bind fun x11 => (zaI 0 x11 v3 h8).bind fun x12 => if 0 < x12 then jn_X5_passes_78 v0 v2 0 h8 else jn_X5_passes_73 v0 v2 h8
theorem ct_X5_passes (g : zG) (l : Launch) (v0 : Nat) (v1 : Int32) (v2 : Int32) (v3 : Int32) : zCt g l yX5_passes cX5_passes 5 none 2 42 zrV [.ref v0, .int v1, .int v2, .int v3] (dn_X5_passes v0 v1 v2 v3) := by
  refine zCt_of (lv := [(0, .ref v0), (1, .int v1), (2, .int v2), (3, .int v3)]) (by decide +kernel) (Nat.le_of_ble_eq_true rfl) rfl ?_
  show zSm g l cX5_passes 5 RX5 "passes" none 2 42 zrV 0 [(0, .ref v0), (1, .int v1), (2, .int v2), (3, .int v3)] [] (dn_X5_passes v0 v1 v2 v3)
  unfold dn_X5_passes
  refine z_rec ?_
  refine z_aload_n (j := 0) (q := 1) (by decide +kernel) rfl 0 rfl ?_
  refine z_iconst (n := 2) (v := 2) (q := 2) (by decide +kernel) rfl (by decide) ?_
  refine z_aload_n (j := 0) (q := 3) (by decide +kernel) rfl 0 rfl ?_
  refine z_iconst (n := 2) (v := 2) (q := 4) (by decide +kernel) rfl (by decide) ?_
  refine z_callVI (As := [.int 2]) (st := [.int 2, .ref v0]) (q := 7) (ct_X5_v g l v0 2) zm_RX5_190 (rc_X5_v v0 2) rfl (by decide) (by decide) (Nat.le_of_ble_eq_true rfl) rfl (by decide +kernel) rfl fun x1 => ?_
  refine z_iconst (n := 1) (v := 1) (q := 8) (by decide +kernel) rfl (by decide) ?_
  refine z_iadd (q := 9) (by decide +kernel) rfl ?_
  refine z_callVU (As := [.int 2, .int (x1 + 1)]) (st := []) (q := 12) (ct_X5_put_ g l v0 2 (x1 + 1)) zm_RX5_182 (rc_X5_put_ v0 2 (x1 + 1)) rfl (by decide) (by decide) (Nat.le_of_ble_eq_true rfl) rfl (by decide +kernel) rfl fun x3 => ?_
  refine z_aload_n (j := 0) (q := 13) (by decide +kernel) rfl 0 rfl ?_
  refine z_bipush (n := 23) (v := 23) (q := 15) (by decide +kernel) rfl (by decide) ?_
  refine z_iload_n (j := 1) (q := 16) (by decide +kernel) rfl 1 rfl ?_
  refine z_iadd (q := 17) (by decide +kernel) rfl ?_
  refine z_aload_n (j := 0) (q := 18) (by decide +kernel) rfl 0 rfl ?_
  refine z_bipush (n := 23) (v := 23) (q := 20) (by decide +kernel) rfl (by decide) ?_
  refine z_iload_n (j := 1) (q := 21) (by decide +kernel) rfl 1 rfl ?_
  refine z_iadd (q := 22) (by decide +kernel) rfl ?_
  refine z_callVI (As := [.int (23 + v1)]) (st := [.int (23 + v1), .ref v0]) (q := 25) (ct_X5_v g l v0 (23 + v1)) zm_RX5_190 (rc_X5_v v0 (23 + v1)) rfl (by decide) (by decide) (Nat.le_of_ble_eq_true rfl) rfl (by decide +kernel) rfl fun x5 => ?_
  refine z_iconst (n := 1) (v := 1) (q := 26) (by decide +kernel) rfl (by decide) ?_
  refine z_iload_n (j := 2) (q := 27) (by decide +kernel) rfl 2 rfl ?_
  refine z_ishl (q := 28) (by decide +kernel) rfl ?_
  refine z_ior (q := 29) (by decide +kernel) rfl ?_
  refine z_callVU (As := [.int (23 + v1), .int (x5 ||| (1 <<< (v2 &&& 31)))]) (st := []) (q := 32) (ct_X5_put_ g l v0 (23 + v1) (x5 ||| (1 <<< (v2 &&& 31)))) zm_RX5_182 (rc_X5_put_ v0 (23 + v1) (x5 ||| (1 <<< (v2 &&& 31)))) rfl (by decide) (by decide) (Nat.le_of_ble_eq_true rfl) rfl (by decide +kernel) rfl fun x7 => ?_
  refine z_aload_n (j := 0) (q := 33) (by decide +kernel) rfl 0 rfl ?_
  refine z_getI (q := 36) zf_RX5_150 (by decide +kernel) rfl fun x9 => ?_
  refine z_iconst (n := 1) (v := 1) (q := 37) (by decide +kernel) rfl (by decide) ?_
  refine z_icmp_ne (off := 20) (t := 57) (q := 40) (by decide +kernel) (by decide) rfl ?_ ?_
  · refine z_aload_n (j := 0) (q := 58) (by decide +kernel) rfl 0 rfl ?_
    refine z_getI (q := 61) zf_RX5_150 (by decide +kernel) rfl fun x10 => ?_
    refine z_if_eq (off := 12) (t := 73) (q := 64) (by decide +kernel) (by decide) rfl ?_ ?_
    · refine zsub [0, 2] rfl ?_
      exact sj_X5_passes_73 g l v0 v2
    · refine z_aload_n (j := 0) (q := 65) (by decide +kernel) rfl 0 rfl ?_
      refine z_getA (q := 68) zf_RX5_29 (by decide +kernel) rfl fun x11 => ?_
      refine z_iload_n (j := 3) (q := 69) (by decide +kernel) rfl 3 rfl ?_
      refine z_iald (q := 70) (Or.inl ⟨rfl, rfl⟩) (by decide +kernel) rfl fun x12 => ?_
      refine z_if_gt (off := 7) (t := 77) (q := 73) (by decide +kernel) (by decide) rfl ?_ ?_
      · refine z_iconst (n := 0) (v := 0) (q := 78) (by decide +kernel) rfl (by decide) ?_
        refine zsub [0, 2] rfl ?_
        exact sj_X5_passes_78 g l v0 v2 0
      · refine zsub [0, 2] rfl ?_
        exact sj_X5_passes_73 g l v0 v2
  · refine z_aload_n (j := 0) (q := 41) (by decide +kernel) rfl 0 rfl ?_
    refine z_iconst (n := 1) (v := 1) (q := 42) (by decide +kernel) rfl (by decide) ?_
    refine z_callVI (As := [.int 1]) (st := []) (q := 45) (ct_X5_v g l v0 1) zm_RX5_190 (rc_X5_v v0 1) rfl (by decide) (by decide) (Nat.le_of_ble_eq_true rfl) rfl (by decide +kernel) rfl fun x13 => ?_
    refine z_iload_n (j := 1) (q := 46) (by decide +kernel) rfl 1 rfl ?_
    refine z_icmp_ne (off := 7) (t := 53) (q := 49) (by decide +kernel) (by decide) rfl ?_ ?_
    · refine z_iconst (n := 0) (v := 0) (q := 54) (by decide +kernel) rfl (by decide) ?_
      refine z_goto (off := 24) (t := 78) (by decide +kernel) (by decide) ?_
      refine zsub [0, 2] rfl ?_
      exact sj_X5_passes_78 g l v0 v2 0
    · refine z_iconst (n := 1) (v := 1) (q := 50) (by decide +kernel) rfl (by decide) ?_
      refine z_goto (off := 28) (t := 78) (by decide +kernel) (by decide) ?_
      refine zsub [0, 2] rfl ?_
      exact sj_X5_passes_78 g l v0 v2 1
theorem rc_X5_passes (v0 : Nat) (v1 : Int32) (v2 : Int32) (v3 : Int32) : ∀ h x, dn_X5_passes v0 v1 v2 v3 h = some x → ∃ fs, zgO 5 v0 h = some fs := fun h x hd => by
  obtain ⟨fs, e, -⟩ := Option.bind_eq_some_iff.mp hd
  exact ⟨fs, e⟩
def jn_X5_goesOn_194 (kc135 : Int32 → zAH → Option (Unit × zAH)) (kc148 : Int32 → zAH → Option (Unit × zAH)) (v0 : Nat) (v1 : Int32) (v4 : Int32) (v5 : Int32) (v6 : Int32) (v7 : Int32) : zAH → Option (Unit × zAH) := fun h => kc148 (v7 + 1) h
theorem sj_X5_goesOn_194 (g : zG) (l : Launch) (kc135 : Int32 → zAH → Option (Unit × zAH)) (kc148 : Int32 → zAH → Option (Unit × zAH)) (v0 : Nat) (v1 : Int32) (v4 : Int32) (v5 : Int32) (v6 : Int32) (v7 : Int32) (hkc135 : ∀ s, zSm g l cX5_goesOn 8 RX5 "goesOn" none 3 66 zrV 135 [(0, .ref v0), (1, .int v1), (4, .int v4), (5, .int v5), (6, .int s)] [] (kc135 s)) (hkc148 : ∀ s, zSm g l cX5_goesOn 8 RX5 "goesOn" none 3 66 zrV 148 [(0, .ref v0), (1, .int v1), (4, .int v4), (5, .int v5), (6, .int v6), (7, .int s)] [] (kc148 s)) : zSm g l cX5_goesOn 8 RX5 "goesOn" none 3 66 zrV 194 [(0, .ref v0), (1, .int v1), (4, .int v4), (5, .int v5), (6, .int v6), (7, .int v7)] [] (jn_X5_goesOn_194 kc135 kc148 v0 v1 v4 v5 v6 v7) := by
  unfold jn_X5_goesOn_194
  refine z_iinc (j := 7) (n := 1) (v := 1) (q := 197) (by decide +kernel) rfl 5 rfl (by decide) (by decide) rfl ?_
  refine z_goto (off := (-49)) (t := 148) (by decide +kernel) (by decide) ?_
  refine zsub [1, 2, 3, 4, 5, 0] rfl ?_
  exact hkc148 (v7 + 1)
def jn_X5_goesOn_200 (kc135 : Int32 → zAH → Option (Unit × zAH)) (v0 : Nat) (v1 : Int32) (v4 : Int32) (v5 : Int32) (v6 : Int32) : zAH → Option (Unit × zAH) := fun h => kc135 (v6 + 1) h
theorem sj_X5_goesOn_200 (g : zG) (l : Launch) (kc135 : Int32 → zAH → Option (Unit × zAH)) (v0 : Nat) (v1 : Int32) (v4 : Int32) (v5 : Int32) (v6 : Int32) (hkc135 : ∀ s, zSm g l cX5_goesOn 8 RX5 "goesOn" none 3 66 zrV 135 [(0, .ref v0), (1, .int v1), (4, .int v4), (5, .int v5), (6, .int s)] [] (kc135 s)) : zSm g l cX5_goesOn 8 RX5 "goesOn" none 3 66 zrV 200 [(0, .ref v0), (1, .int v1), (4, .int v4), (5, .int v5), (6, .int v6)] [] (jn_X5_goesOn_200 kc135 v0 v1 v4 v5 v6) := by
  unfold jn_X5_goesOn_200
  refine z_iinc (j := 6) (n := 1) (v := 1) (q := 203) (by decide +kernel) rfl 4 rfl (by decide) (by decide) rfl ?_
  refine z_goto (off := (-68)) (t := 135) (by decide +kernel) (by decide) ?_
  refine zsub [1, 2, 3, 4, 0] rfl ?_
  exact hkc135 (v6 + 1)
def lb_X5_goesOn_148 (kc135 : Int32 → zAH → Option (Unit × zAH)) (v0 : Nat) (v1 : Int32) (v4 : Int32) (v5 : Int32) (v6 : Int32) (rec : (Int32) → zAH → Option (Unit × zAH)) (s : Int32) : zAH → Option (Unit × zAH) := fun h => (zgI 5 12 v0 h).bind fun x1 => if s < x1 then if s = v1 then jn_X5_goesOn_194 kc135 rec v0 v1 v4 v5 v6 s h else zbd (dn_X5_isDone v0 s h) fun x2 h3 => if x2 = 0 then zbd (dn_X5_v v0 (3 + s) h3) fun x4 h5 => if x4 = v6 then zbd (dn_X5_passes v0 v1 s v5 h5) fun x6 h7 => jn_X5_goesOn_194 kc135 rec v0 v1 v4 v5 v6 s h7 else jn_X5_goesOn_194 kc135 rec v0 v1 v4 v5 v6 s h5 else jn_X5_goesOn_194 kc135 rec v0 v1 v4 v5 v6 s h3 else jn_X5_goesOn_200 kc135 v0 v1 v4 v5 v6 h
def lp_X5_goesOn_148 (kc135 : Int32 → zAH → Option (Unit × zAH)) (v0 : Nat) (v1 : Int32) (v4 : Int32) (v5 : Int32) (v6 : Int32) (s : Int32) : zAH → Option (Unit × zAH) := zlp (lb_X5_goesOn_148 kc135 v0 v1 v4 v5 v6) 2000 s
theorem sl_X5_goesOn_148 (g : zG) (l : Launch) (kc135 : Int32 → zAH → Option (Unit × zAH)) (v0 : Nat) (v1 : Int32) (v4 : Int32) (v5 : Int32) (v6 : Int32) (hkc135 : ∀ s, zSm g l cX5_goesOn 8 RX5 "goesOn" none 3 66 zrV 135 [(0, .ref v0), (1, .int v1), (4, .int v4), (5, .int v5), (6, .int s)] [] (kc135 s)) (s : Int32) : zSm g l cX5_goesOn 8 RX5 "goesOn" none 3 66 zrV 148 [(0, .ref v0), (1, .int v1), (4, .int v4), (5, .int v5), (6, .int v6), (7, .int s)] [] (lp_X5_goesOn_148 kc135 v0 v1 v4 v5 v6 s) := by
  unfold lp_X5_goesOn_148
  refine z_loop (lvf := fun s => [(0, .ref v0), (1, .int v1), (4, .int v4), (5, .int v5), (6, .int v6), (7, .int s)]) (fun rec hrec s => ?_) 2000 s
  unfold lb_X5_goesOn_148
  refine z_iload (j := 7) (q := 150) (by decide +kernel) rfl 5 rfl ?_
  refine z_aload_n (j := 0) (q := 151) (by decide +kernel) rfl 0 rfl ?_
  refine z_getI (q := 154) zf_RX5_147 (by decide +kernel) rfl fun x1 => ?_
  refine z_icmp_ge (off := 46) (t := 200) (q := 157) (by decide +kernel) (by decide) rfl ?_ ?_
  · refine zsub [0, 1, 2, 3, 4] rfl ?_
    exact sj_X5_goesOn_200 g l kc135 v0 v1 v4 v5 v6 hkc135
  · refine z_iload (j := 7) (q := 159) (by decide +kernel) rfl 5 rfl ?_
    refine z_iload_n (j := 1) (q := 160) (by decide +kernel) rfl 1 rfl ?_
    refine z_icmp_eq (off := 34) (t := 194) (q := 163) (by decide +kernel) (by decide) rfl ?_ ?_
    · refine zsub [0, 1, 2, 3, 4, 5] rfl ?_
      exact sj_X5_goesOn_194 g l kc135 rec v0 v1 v4 v5 v6 s hkc135 hrec
    · refine z_aload_n (j := 0) (q := 164) (by decide +kernel) rfl 0 rfl ?_
      refine z_iload (j := 7) (q := 166) (by decide +kernel) rfl 5 rfl ?_
      refine z_callVI (As := [.int s]) (st := []) (q := 169) (ct_X5_isDone g l v0 s) zm_RX5_193 (rc_X5_isDone v0 s) rfl (by decide) (by decide) (Nat.le_of_ble_eq_true rfl) rfl (by decide +kernel) rfl fun x2 => ?_
      refine z_if_ne (off := 25) (t := 194) (q := 172) (by decide +kernel) (by decide) rfl ?_ ?_
      · refine zsub [0, 1, 2, 3, 4, 5] rfl ?_
        exact sj_X5_goesOn_194 g l kc135 rec v0 v1 v4 v5 v6 s hkc135 hrec
      · refine z_aload_n (j := 0) (q := 173) (by decide +kernel) rfl 0 rfl ?_
        refine z_iconst (n := 3) (v := 3) (q := 174) (by decide +kernel) rfl (by decide) ?_
        refine z_iload (j := 7) (q := 176) (by decide +kernel) rfl 5 rfl ?_
        refine z_iadd (q := 177) (by decide +kernel) rfl ?_
        refine z_callVI (As := [.int (3 + s)]) (st := []) (q := 180) (ct_X5_v g l v0 (3 + s)) zm_RX5_190 (rc_X5_v v0 (3 + s)) rfl (by decide) (by decide) (Nat.le_of_ble_eq_true rfl) rfl (by decide +kernel) rfl fun x4 => ?_
        refine z_iload (j := 6) (q := 182) (by decide +kernel) rfl 4 rfl ?_
        refine z_icmp_ne (off := 12) (t := 194) (q := 185) (by decide +kernel) (by decide) rfl ?_ ?_
        · refine zsub [0, 1, 2, 3, 4, 5] rfl ?_
          exact sj_X5_goesOn_194 g l kc135 rec v0 v1 v4 v5 v6 s hkc135 hrec
        · refine z_aload_n (j := 0) (q := 186) (by decide +kernel) rfl 0 rfl ?_
          refine z_iload_n (j := 1) (q := 187) (by decide +kernel) rfl 1 rfl ?_
          refine z_iload (j := 7) (q := 189) (by decide +kernel) rfl 5 rfl ?_
          refine z_iload (j := 5) (q := 191) (by decide +kernel) rfl 3 rfl ?_
          refine z_callVU (As := [.int v1, .int s, .int v5]) (st := []) (q := 194) (ct_X5_passes g l v0 v1 s v5) zm_RX5_211 (rc_X5_passes v0 v1 s v5) rfl (by decide) (by decide) (Nat.le_of_ble_eq_true rfl) rfl (by decide +kernel) rfl fun x6 => ?_
          refine zsub [0, 1, 2, 3, 4, 5] rfl ?_
          exact sj_X5_goesOn_194 g l kc135 rec v0 v1 v4 v5 v6 s hkc135 hrec
def jn_X5_goesOn_245 (w0 : Nat) (w1 : Int32) (w2 : Int32) : zAH → Option (Unit × zAH) := fun h => zbd (dn_X5_put_ w0 w1 w2 h) fun x1 h2 => some ((), h2)
theorem sj_X5_goesOn_245 (g : zG) (l : Launch) (w0 : Nat) (w1 : Int32) (w2 : Int32) : zSm g l cX5_goesOn 8 RX5 "goesOn" none 3 66 zrV 245 [] [.int w2, .int w1, .ref w0] (jn_X5_goesOn_245 w0 w1 w2) := by
  unfold jn_X5_goesOn_245
  refine z_callVU (As := [.int w1, .int w2]) (st := []) (q := 248) (ct_X5_put_ g l w0 w1 w2) zm_RX5_182 (rc_X5_put_ w0 w1 w2) rfl (by decide) (by decide) (Nat.le_of_ble_eq_true rfl) rfl (by decide +kernel) rfl fun x1 => ?_
  exact z_vret (by decide +kernel)
def jn_X5_goesOn_206 (v0 : Nat) (v1 : Int32) (v4 : Int32) (v5 : Int32) : zAH → Option (Unit × zAH) := fun h => zbd (dn_X5_put_ v0 (3 + v1) (v5 + v4) h) fun x1 h2 => (zgI 5 10 v0 h2).bind fun x3 => if (v5 + v4) < x3 then jn_X5_goesOn_245 v0 (13 + v1) ((-9)) h2 else zbd (dn_X5_v v0 0 h2) fun x4 h5 => jn_X5_goesOn_245 v0 (13 + v1) x4 h5
theorem sj_X5_goesOn_206 (g : zG) (l : Launch) (v0 : Nat) (v1 : Int32) (v4 : Int32) (v5 : Int32) : zSm g l cX5_goesOn 8 RX5 "goesOn" none 3 66 zrV 206 [(0, .ref v0), (1, .int v1), (4, .int v4), (5, .int v5)] [] (jn_X5_goesOn_206 v0 v1 v4 v5) := by
  unfold jn_X5_goesOn_206
  refine z_aload_n (j := 0) (q := 207) (by decide +kernel) rfl 0 rfl ?_
  refine z_iconst (n := 3) (v := 3) (q := 208) (by decide +kernel) rfl (by decide) ?_
  refine z_iload_n (j := 1) (q := 209) (by decide +kernel) rfl 1 rfl ?_
  refine z_iadd (q := 210) (by decide +kernel) rfl ?_
  refine z_iload (j := 5) (q := 212) (by decide +kernel) rfl 3 rfl ?_
  refine z_iload (j := 4) (q := 214) (by decide +kernel) rfl 2 rfl ?_
  refine z_iadd (q := 215) (by decide +kernel) rfl ?_
  refine z_callVU (As := [.int (3 + v1), .int (v5 + v4)]) (st := []) (q := 218) (ct_X5_put_ g l v0 (3 + v1) (v5 + v4)) zm_RX5_182 (rc_X5_put_ v0 (3 + v1) (v5 + v4)) rfl (by decide) (by decide) (Nat.le_of_ble_eq_true rfl) rfl (by decide +kernel) rfl fun x1 => ?_
  refine z_aload_n (j := 0) (q := 219) (by decide +kernel) rfl 0 rfl ?_
  refine z_bipush (n := 13) (v := 13) (q := 221) (by decide +kernel) rfl (by decide) ?_
  refine z_iload_n (j := 1) (q := 222) (by decide +kernel) rfl 1 rfl ?_
  refine z_iadd (q := 223) (by decide +kernel) rfl ?_
  refine z_iload (j := 5) (q := 225) (by decide +kernel) rfl 3 rfl ?_
  refine z_iload (j := 4) (q := 227) (by decide +kernel) rfl 2 rfl ?_
  refine z_iadd (q := 228) (by decide +kernel) rfl ?_
  refine z_aload_n (j := 0) (q := 229) (by decide +kernel) rfl 0 rfl ?_
  refine z_getI (q := 232) zf_RX5_144 (by decide +kernel) rfl fun x3 => ?_
  refine z_icmp_lt (off := 11) (t := 243) (q := 235) (by decide +kernel) (by decide) rfl ?_ ?_
  · refine z_bipush (n := (-9)) (v := (-9)) (q := 245) (by decide +kernel) rfl (by decide) ?_
    refine zsub [] rfl ?_
    exact sj_X5_goesOn_245 g l v0 (13 + v1) ((-9))
  · refine z_aload_n (j := 0) (q := 236) (by decide +kernel) rfl 0 rfl ?_
    refine z_iconst (n := 0) (v := 0) (q := 237) (by decide +kernel) rfl (by decide) ?_
    refine z_callVI (As := [.int 0]) (st := [.int (13 + v1), .ref v0]) (q := 240) (ct_X5_v g l v0 0) zm_RX5_190 (rc_X5_v v0 0) rfl (by decide) (by decide) (Nat.le_of_ble_eq_true rfl) rfl (by decide +kernel) rfl fun x4 => ?_
    refine z_goto (off := 5) (t := 245) (by decide +kernel) (by decide) ?_
    refine zsub [] rfl ?_
    exact sj_X5_goesOn_245 g l v0 (13 + v1) x4
def lb_X5_goesOn_135 (v0 : Nat) (v1 : Int32) (v4 : Int32) (v5 : Int32) (rec : (Int32) → zAH → Option (Unit × zAH)) (s : Int32) : zAH → Option (Unit × zAH) := fun h => if s < (v5 + v4) then lp_X5_goesOn_148 rec v0 v1 v4 v5 s 0 h else jn_X5_goesOn_206 v0 v1 v4 v5 h
def lp_X5_goesOn_135 (v0 : Nat) (v1 : Int32) (v4 : Int32) (v5 : Int32) (s : Int32) : zAH → Option (Unit × zAH) := zlp (lb_X5_goesOn_135 v0 v1 v4 v5) 2000 s
theorem sl_X5_goesOn_135 (g : zG) (l : Launch) (v0 : Nat) (v1 : Int32) (v4 : Int32) (v5 : Int32) (s : Int32) : zSm g l cX5_goesOn 8 RX5 "goesOn" none 3 66 zrV 135 [(0, .ref v0), (1, .int v1), (4, .int v4), (5, .int v5), (6, .int s)] [] (lp_X5_goesOn_135 v0 v1 v4 v5 s) := by
  unfold lp_X5_goesOn_135
  refine z_loop (lvf := fun s => [(0, .ref v0), (1, .int v1), (4, .int v4), (5, .int v5), (6, .int s)]) (fun rec hrec s => ?_) 2000 s
  unfold lb_X5_goesOn_135
  refine z_iload (j := 6) (q := 137) (by decide +kernel) rfl 4 rfl ?_
  refine z_iload (j := 5) (q := 139) (by decide +kernel) rfl 3 rfl ?_
  refine z_iload (j := 4) (q := 141) (by decide +kernel) rfl 2 rfl ?_
  refine z_iadd (q := 142) (by decide +kernel) rfl ?_
  refine z_icmp_ge (off := 64) (t := 206) (q := 145) (by decide +kernel) (by decide) rfl ?_ ?_
  · refine zsub [0, 1, 2, 3] rfl ?_
    exact sj_X5_goesOn_206 g l v0 v1 v4 v5
  · refine z_iconst (n := 0) (v := 0) (q := 146) (by decide +kernel) rfl (by decide) ?_
    refine z_istore (j := 7) (q := 148) (by decide +kernel) rfl (by decide) rfl ?_
    refine zsub [1, 2, 3, 4, 5, 0] rfl ?_
    exact sl_X5_goesOn_148 g l rec v0 v1 v4 v5 s hrec 0
def jn_X5_goesOn_127 (v0 : Nat) (v1 : Int32) (v4 : Int32) (v5 : Int32) (w0 : Nat) (w1 : Int32) (w2 : Int32) (w3 : Int32) : zAH → Option (Unit × zAH) := fun h => zbd (dn_X5_put_ w0 w1 (w2 + w3) h) fun x1 h2 => lp_X5_goesOn_135 v0 v1 v4 v5 v5 h2
theorem sj_X5_goesOn_127 (g : zG) (l : Launch) (v0 : Nat) (v1 : Int32) (v4 : Int32) (v5 : Int32) (w0 : Nat) (w1 : Int32) (w2 : Int32) (w3 : Int32) : zSm g l cX5_goesOn 8 RX5 "goesOn" none 3 66 zrV 127 [(0, .ref v0), (1, .int v1), (4, .int v4), (5, .int v5)] [.int w3, .int w2, .int w1, .ref w0] (jn_X5_goesOn_127 v0 v1 v4 v5 w0 w1 w2 w3) := by
  unfold jn_X5_goesOn_127
  refine z_iadd (q := 128) (by decide +kernel) rfl ?_
  refine z_callVU (As := [.int w1, .int (w2 + w3)]) (st := []) (q := 131) (ct_X5_put_ g l w0 w1 (w2 + w3)) zm_RX5_182 (rc_X5_put_ w0 w1 (w2 + w3)) rfl (by decide) (by decide) (Nat.le_of_ble_eq_true rfl) rfl (by decide +kernel) rfl fun x1 => ?_
  refine z_iload (j := 5) (q := 133) (by decide +kernel) rfl 3 rfl ?_
  refine z_istore (j := 6) (q := 135) (by decide +kernel) rfl (by decide) rfl ?_
  refine zsub [1, 2, 3, 4, 0] rfl ?_
  exact sl_X5_goesOn_135 g l v0 v1 v4 v5 v5
def jn_X5_goesOn_69 (v0 : Nat) (v1 : Int32) (v3 : Int32) (w0 : Int32) : zAH → Option (Unit × zAH) := fun h => zbd (dn_X5_v v0 (3 + v1) h) fun x1 h2 => zbd (dn_X5_put_ v0 (8 + v1) v3 h2) fun x3 h4 => zbd (dn_X5_v v0 (18 + v1) h4) fun x5 h6 => zbd (dn_X5_v v0 1 h6) fun x7 h8 => if x7 = v1 then (zgI 5 10 v0 h8).bind fun x9 => zbd (dn_X5_lesser w0 (x9 - x1) h8) fun x10 h11 => jn_X5_goesOn_127 v0 v1 w0 x1 v0 (18 + v1) x5 x10 h11 else jn_X5_goesOn_127 v0 v1 w0 x1 v0 (18 + v1) x5 0 h8
theorem sj_X5_goesOn_69 (g : zG) (l : Launch) (v0 : Nat) (v1 : Int32) (v3 : Int32) (w0 : Int32) : zSm g l cX5_goesOn 8 RX5 "goesOn" none 3 66 zrV 69 [(0, .ref v0), (1, .int v1), (3, .int v3)] [.int w0] (jn_X5_goesOn_69 v0 v1 v3 w0) := by
  unfold jn_X5_goesOn_69
  refine z_istore (j := 4) (q := 71) (by decide +kernel) rfl (by decide) rfl ?_
  refine z_aload_n (j := 0) (q := 72) (by decide +kernel) rfl 1 rfl ?_
  refine z_iconst (n := 3) (v := 3) (q := 73) (by decide +kernel) rfl (by decide) ?_
  refine z_iload_n (j := 1) (q := 74) (by decide +kernel) rfl 2 rfl ?_
  refine z_iadd (q := 75) (by decide +kernel) rfl ?_
  refine z_callVI (As := [.int (3 + v1)]) (st := []) (q := 78) (ct_X5_v g l v0 (3 + v1)) zm_RX5_190 (rc_X5_v v0 (3 + v1)) rfl (by decide) (by decide) (Nat.le_of_ble_eq_true rfl) rfl (by decide +kernel) rfl fun x1 => ?_
  refine z_istore (j := 5) (q := 80) (by decide +kernel) rfl (by decide) rfl ?_
  refine z_aload_n (j := 0) (q := 81) (by decide +kernel) rfl 2 rfl ?_
  refine z_bipush (n := 8) (v := 8) (q := 83) (by decide +kernel) rfl (by decide) ?_
  refine z_iload_n (j := 1) (q := 84) (by decide +kernel) rfl 3 rfl ?_
  refine z_iadd (q := 85) (by decide +kernel) rfl ?_
  refine z_iload_n (j := 3) (q := 86) (by decide +kernel) rfl 4 rfl ?_
  refine z_callVU (As := [.int (8 + v1), .int v3]) (st := []) (q := 89) (ct_X5_put_ g l v0 (8 + v1) v3) zm_RX5_182 (rc_X5_put_ v0 (8 + v1) v3) rfl (by decide) (by decide) (Nat.le_of_ble_eq_true rfl) rfl (by decide +kernel) rfl fun x3 => ?_
  refine z_aload_n (j := 0) (q := 90) (by decide +kernel) rfl 2 rfl ?_
  refine z_bipush (n := 18) (v := 18) (q := 92) (by decide +kernel) rfl (by decide) ?_
  refine z_iload_n (j := 1) (q := 93) (by decide +kernel) rfl 3 rfl ?_
  refine z_iadd (q := 94) (by decide +kernel) rfl ?_
  refine z_aload_n (j := 0) (q := 95) (by decide +kernel) rfl 2 rfl ?_
  refine z_bipush (n := 18) (v := 18) (q := 97) (by decide +kernel) rfl (by decide) ?_
  refine z_iload_n (j := 1) (q := 98) (by decide +kernel) rfl 3 rfl ?_
  refine z_iadd (q := 99) (by decide +kernel) rfl ?_
  refine z_callVI (As := [.int (18 + v1)]) (st := [.int (18 + v1), .ref v0]) (q := 102) (ct_X5_v g l v0 (18 + v1)) zm_RX5_190 (rc_X5_v v0 (18 + v1)) rfl (by decide) (by decide) (Nat.le_of_ble_eq_true rfl) rfl (by decide +kernel) rfl fun x5 => ?_
  refine z_aload_n (j := 0) (q := 103) (by decide +kernel) rfl 2 rfl ?_
  refine z_iconst (n := 1) (v := 1) (q := 104) (by decide +kernel) rfl (by decide) ?_
  refine z_callVI (As := [.int 1]) (st := [.int x5, .int (18 + v1), .ref v0]) (q := 107) (ct_X5_v g l v0 1) zm_RX5_190 (rc_X5_v v0 1) rfl (by decide) (by decide) (Nat.le_of_ble_eq_true rfl) rfl (by decide +kernel) rfl fun x7 => ?_
  refine z_iload_n (j := 1) (q := 108) (by decide +kernel) rfl 3 rfl ?_
  refine z_icmp_ne (off := 18) (t := 126) (q := 111) (by decide +kernel) (by decide) rfl ?_ ?_
  · refine z_iconst (n := 0) (v := 0) (q := 127) (by decide +kernel) rfl (by decide) ?_
    refine zsub [2, 3, 1, 0] rfl ?_
    exact sj_X5_goesOn_127 g l v0 v1 w0 x1 v0 (18 + v1) x5 0
  · refine z_iload (j := 4) (q := 113) (by decide +kernel) rfl 1 rfl ?_
    refine z_aload_n (j := 0) (q := 114) (by decide +kernel) rfl 2 rfl ?_
    refine z_getI (q := 117) zf_RX5_144 (by decide +kernel) rfl fun x9 => ?_
    refine z_iload (j := 5) (q := 119) (by decide +kernel) rfl 0 rfl ?_
    refine z_isub (q := 120) (by decide +kernel) rfl ?_
    refine z_callSI (As := [.int w0, .int (x9 - x1)]) (st := [.int x5, .int (18 + v1), .ref v0]) (q := 123) (ct_X5_lesser g l w0 (x9 - x1)) zm_RX5_202 rfl (by decide) (by decide) (Nat.le_of_ble_eq_true rfl) rfl (by decide +kernel) rfl fun x10 => ?_
    refine z_goto (off := 4) (t := 127) (by decide +kernel) (by decide) ?_
    refine zsub [2, 3, 1, 0] rfl ?_
    exact sj_X5_goesOn_127 g l v0 v1 w0 x1 v0 (18 + v1) x5 x10
def jn_X5_goesOn_68 (v0 : Nat) (v1 : Int32) (v2 : Int32) (v3 : Int32) : zAH → Option (Unit × zAH) := fun h => jn_X5_goesOn_69 v0 v1 v3 v2 h
theorem sj_X5_goesOn_68 (g : zG) (l : Launch) (v0 : Nat) (v1 : Int32) (v2 : Int32) (v3 : Int32) : zSm g l cX5_goesOn 8 RX5 "goesOn" none 3 66 zrV 68 [(0, .ref v0), (1, .int v1), (2, .int v2), (3, .int v3)] [] (jn_X5_goesOn_68 v0 v1 v2 v3) := by
  unfold jn_X5_goesOn_68
  refine z_iload_n (j := 2) (q := 69) (by decide +kernel) rfl 2 rfl ?_
  refine zsub [0, 1, 3] rfl ?_
  exact sj_X5_goesOn_69 g l v0 v1 v3 v2
def jn_X5_goesOn_42 (v0 : Nat) (v1 : Int32) (v2 : Int32) : zAH → Option (Unit × zAH) := fun h => zbd (dn_X5_breathBy v0 v1 v2 h) fun x1 h2 => (zgA 5 13 v0 h2).bind fun x3 => (zaI 0 x3 v1 h2).bind fun x4 => if x4 = 3 then if v2 = 3 then jn_X5_goesOn_69 v0 v1 x1 4 h2 else jn_X5_goesOn_68 v0 v1 v2 x1 h2 else jn_X5_goesOn_68 v0 v1 v2 x1 h2
theorem sj_X5_goesOn_42 (g : zG) (l : Launch) (v0 : Nat) (v1 : Int32) (v2 : Int32) : zSm g l cX5_goesOn 8 RX5 "goesOn" none 3 66 zrV 42 [(0, .ref v0), (1, .int v1), (2, .int v2)] [] (jn_X5_goesOn_42 v0 v1 v2) := by
  unfold jn_X5_goesOn_42
  refine z_aload_n (j := 0) (q := 43) (by decide +kernel) rfl 0 rfl ?_
  refine z_iload_n (j := 1) (q := 44) (by decide +kernel) rfl 1 rfl ?_
  refine z_iload_n (j := 2) (q := 45) (by decide +kernel) rfl 2 rfl ?_
  refine z_callVI (As := [.int v1, .int v2]) (st := []) (q := 48) (ct_X5_breathBy g l v0 v1 v2) zm_RX5_208 (rc_X5_breathBy v0 v1 v2) rfl (by decide) (by decide) (Nat.le_of_ble_eq_true rfl) rfl (by decide +kernel) rfl fun x1 => ?_
  refine z_istore_n (j := 3) (q := 49) (by decide +kernel) rfl (by decide) rfl ?_
  refine z_aload_n (j := 0) (q := 50) (by decide +kernel) rfl 1 rfl ?_
  refine z_getA (q := 53) zf_RX5_32 (by decide +kernel) rfl fun x3 => ?_
  refine z_iload_n (j := 1) (q := 54) (by decide +kernel) rfl 2 rfl ?_
  refine z_iald (q := 55) (Or.inl ⟨rfl, rfl⟩) (by decide +kernel) rfl fun x4 => ?_
  refine z_iconst (n := 3) (v := 3) (q := 56) (by decide +kernel) rfl (by decide) ?_
  refine z_icmp_ne (off := 12) (t := 68) (q := 59) (by decide +kernel) (by decide) rfl ?_ ?_
  · refine zsub [1, 2, 3, 0] rfl ?_
    exact sj_X5_goesOn_68 g l v0 v1 v2 x1
  · refine z_iload_n (j := 2) (q := 60) (by decide +kernel) rfl 3 rfl ?_
    refine z_iconst (n := 3) (v := 3) (q := 61) (by decide +kernel) rfl (by decide) ?_
    refine z_icmp_ne (off := 7) (t := 68) (q := 64) (by decide +kernel) (by decide) rfl ?_ ?_
    · refine zsub [1, 2, 3, 0] rfl ?_
      exact sj_X5_goesOn_68 g l v0 v1 v2 x1
    · refine z_iconst (n := 4) (v := 4) (q := 65) (by decide +kernel) rfl (by decide) ?_
      refine z_goto (off := 4) (t := 69) (by decide +kernel) (by decide) ?_
      refine zsub [1, 2, 0] rfl ?_
      exact sj_X5_goesOn_69 g l v0 v1 x1 4
def lb_X5_goesOn_27 (v0 : Nat) (v1 : Int32) (rec : (Int32) → zAH → Option (Unit × zAH)) (s : Int32) : zAH → Option (Unit × zAH) := fun h => zbd (dn_X5_breathBy v0 v1 s h) fun x1 h2 => if x1 < 0 then rec (s + (-1)) h2 else jn_X5_goesOn_42 v0 v1 s h2
def lp_X5_goesOn_27 (v0 : Nat) (v1 : Int32) (s : Int32) : zAH → Option (Unit × zAH) := zlp (lb_X5_goesOn_27 v0 v1) 2000 s
theorem sl_X5_goesOn_27 (g : zG) (l : Launch) (v0 : Nat) (v1 : Int32) (s : Int32) : zSm g l cX5_goesOn 8 RX5 "goesOn" none 3 66 zrV 27 [(0, .ref v0), (1, .int v1), (2, .int s)] [] (lp_X5_goesOn_27 v0 v1 s) := by
  unfold lp_X5_goesOn_27
  refine z_loop (lvf := fun s => [(0, .ref v0), (1, .int v1), (2, .int s)]) (fun rec hrec s => ?_) 2000 s
  unfold lb_X5_goesOn_27
  refine z_aload_n (j := 0) (q := 28) (by decide +kernel) rfl 0 rfl ?_
  refine z_iload_n (j := 1) (q := 29) (by decide +kernel) rfl 1 rfl ?_
  refine z_iload_n (j := 2) (q := 30) (by decide +kernel) rfl 2 rfl ?_
  refine z_callVI (As := [.int v1, .int s]) (st := []) (q := 33) (ct_X5_breathBy g l v0 v1 s) zm_RX5_208 (rc_X5_breathBy v0 v1 s) rfl (by decide) (by decide) (Nat.le_of_ble_eq_true rfl) rfl (by decide +kernel) rfl fun x1 => ?_
  refine z_if_ge (off := 9) (t := 42) (q := 36) (by decide +kernel) (by decide) rfl ?_ ?_
  · refine zsub [0, 1, 2] rfl ?_
    exact sj_X5_goesOn_42 g l v0 v1 s
  · refine z_iinc (j := 2) (n := (-1)) (v := (-1)) (q := 39) (by decide +kernel) rfl 2 rfl (by decide) (by decide) rfl ?_
    refine z_goto (off := (-12)) (t := 27) (by decide +kernel) (by decide) ?_
    refine zsub [1, 2, 0] rfl ?_
    exact hrec (s + (-1))
def jn_X5_goesOn_26 (v0 : Nat) (v1 : Int32) (w0 : Int32) : zAH → Option (Unit × zAH) := fun h => lp_X5_goesOn_27 v0 v1 w0 h
theorem sj_X5_goesOn_26 (g : zG) (l : Launch) (v0 : Nat) (v1 : Int32) (w0 : Int32) : zSm g l cX5_goesOn 8 RX5 "goesOn" none 3 66 zrV 26 [(0, .ref v0), (1, .int v1)] [.int w0] (jn_X5_goesOn_26 v0 v1 w0) := by
  unfold jn_X5_goesOn_26
  refine z_istore_n (j := 2) (q := 27) (by decide +kernel) rfl (by decide) rfl ?_
  refine zsub [1, 2, 0] rfl ?_
  exact sl_X5_goesOn_27 g l v0 v1 w0
def jn_X5_goesOn_25 (v0 : Nat) (v1 : Int32) (v2 : Int32) : zAH → Option (Unit × zAH) := fun h => jn_X5_goesOn_26 v0 v1 v2 h
theorem sj_X5_goesOn_25 (g : zG) (l : Launch) (v0 : Nat) (v1 : Int32) (v2 : Int32) : zSm g l cX5_goesOn 8 RX5 "goesOn" none 3 66 zrV 25 [(0, .ref v0), (1, .int v1), (2, .int v2)] [] (jn_X5_goesOn_25 v0 v1 v2) := by
  unfold jn_X5_goesOn_25
  refine z_iload_n (j := 2) (q := 26) (by decide +kernel) rfl 2 rfl ?_
  refine zsub [0, 1] rfl ?_
  exact sj_X5_goesOn_26 g l v0 v1 v2
def dn_X5_goesOn (v0 : Nat) (v1 : Int32) : zAH → Option (Unit × zAH) := fun h => (zgO 5 v0 h).bind fun _ => zbd (dn_X5_wanted v0 v1 h) fun x1 h2 => (zgA 5 13 v0 h2).bind fun x3 => (zaI 0 x3 v1 h2).bind fun x4 => if x4 = 5 then if x1 = 3 then jn_X5_goesOn_26 v0 v1 2 h2 else jn_X5_goesOn_25 v0 v1 x1 h2 else jn_X5_goesOn_25 v0 v1 x1 h2
theorem ct_X5_goesOn (g : zG) (l : Launch) (v0 : Nat) (v1 : Int32) : zCt g l yX5_goesOn cX5_goesOn 8 none 3 66 zrV [.ref v0, .int v1] (dn_X5_goesOn v0 v1) := by
  refine zCt_of (lv := [(0, .ref v0), (1, .int v1)]) (by decide +kernel) (Nat.le_of_ble_eq_true rfl) rfl ?_
  show zSm g l cX5_goesOn 8 RX5 "goesOn" none 3 66 zrV 0 [(0, .ref v0), (1, .int v1)] [] (dn_X5_goesOn v0 v1)
  unfold dn_X5_goesOn
  refine z_rec ?_
  refine z_aload_n (j := 0) (q := 1) (by decide +kernel) rfl 0 rfl ?_
  refine z_iload_n (j := 1) (q := 2) (by decide +kernel) rfl 1 rfl ?_
  refine z_callVI (As := [.int v1]) (st := []) (q := 5) (ct_X5_wanted g l v0 v1) zm_RX5_205 (rc_X5_wanted v0 v1) rfl (by decide) (by decide) (Nat.le_of_ble_eq_true rfl) rfl (by decide +kernel) rfl fun x1 => ?_
  refine z_istore_n (j := 2) (q := 6) (by decide +kernel) rfl (by decide) rfl ?_
  refine z_aload_n (j := 0) (q := 7) (by decide +kernel) rfl 1 rfl ?_
  refine z_getA (q := 10) zf_RX5_32 (by decide +kernel) rfl fun x3 => ?_
  refine z_iload_n (j := 1) (q := 11) (by decide +kernel) rfl 2 rfl ?_
  refine z_iald (q := 12) (Or.inl ⟨rfl, rfl⟩) (by decide +kernel) rfl fun x4 => ?_
  refine z_iconst (n := 5) (v := 5) (q := 13) (by decide +kernel) rfl (by decide) ?_
  refine z_icmp_ne (off := 12) (t := 25) (q := 16) (by decide +kernel) (by decide) rfl ?_ ?_
  · refine zsub [1, 2, 0] rfl ?_
    exact sj_X5_goesOn_25 g l v0 v1 x1
  · refine z_iload_n (j := 2) (q := 17) (by decide +kernel) rfl 0 rfl ?_
    refine z_iconst (n := 3) (v := 3) (q := 18) (by decide +kernel) rfl (by decide) ?_
    refine z_icmp_ne (off := 7) (t := 25) (q := 21) (by decide +kernel) (by decide) rfl ?_ ?_
    · refine zsub [1, 2, 0] rfl ?_
      exact sj_X5_goesOn_25 g l v0 v1 x1
    · refine z_iconst (n := 2) (v := 2) (q := 22) (by decide +kernel) rfl (by decide) ?_
      refine z_goto (off := 4) (t := 26) (by decide +kernel) (by decide) ?_
      refine zsub [1, 2] rfl ?_
      exact sj_X5_goesOn_26 g l v0 v1 2
theorem rc_X5_goesOn (v0 : Nat) (v1 : Int32) : ∀ h x, dn_X5_goesOn v0 v1 h = some x → ∃ fs, zgO 5 v0 h = some fs := fun h x hd => by
  obtain ⟨fs, e, -⟩ := Option.bind_eq_some_iff.mp hd
  exact ⟨fs, e⟩
def jn_X5_step_23 (kc2 : Int32 → zAH → Option (Unit × zAH)) (v0 : Nat) (v1 : Int32) : zAH → Option (Unit × zAH) := fun h => kc2 (v1 + 1) h
theorem sj_X5_step_23 (g : zG) (l : Launch) (kc2 : Int32 → zAH → Option (Unit × zAH)) (v0 : Nat) (v1 : Int32) (hkc2 : ∀ s, zSm g l cX5_step 2 RX5 "step" none 4 93 zrV 2 [(0, .ref v0), (1, .int s)] [] (kc2 s)) : zSm g l cX5_step 2 RX5 "step" none 4 93 zrV 23 [(0, .ref v0), (1, .int v1)] [] (jn_X5_step_23 kc2 v0 v1) := by
  unfold jn_X5_step_23
  refine z_iinc (j := 1) (n := 1) (v := 1) (q := 26) (by decide +kernel) rfl 1 rfl (by decide) (by decide) rfl ?_
  refine z_goto (off := (-24)) (t := 2) (by decide +kernel) (by decide) ?_
  refine zsub [1, 0] rfl ?_
  exact hkc2 (v1 + 1)
def jn_X5_step_29 (v0 : Nat) : zAH → Option (Unit × zAH) := fun h => zbd (dn_X5_v v0 0 h) fun x1 h2 => zbd (dn_X5_put_ v0 0 (x1 + 1) h2) fun x3 h4 => some ((), h4)
theorem sj_X5_step_29 (g : zG) (l : Launch) (v0 : Nat) : zSm g l cX5_step 2 RX5 "step" none 4 93 zrV 29 [(0, .ref v0)] [] (jn_X5_step_29 v0) := by
  unfold jn_X5_step_29
  refine z_aload_n (j := 0) (q := 30) (by decide +kernel) rfl 0 rfl ?_
  refine z_iconst (n := 0) (v := 0) (q := 31) (by decide +kernel) rfl (by decide) ?_
  refine z_aload_n (j := 0) (q := 32) (by decide +kernel) rfl 0 rfl ?_
  refine z_iconst (n := 0) (v := 0) (q := 33) (by decide +kernel) rfl (by decide) ?_
  refine z_callVI (As := [.int 0]) (st := [.int 0, .ref v0]) (q := 36) (ct_X5_v g l v0 0) zm_RX5_190 (rc_X5_v v0 0) rfl (by decide) (by decide) (Nat.le_of_ble_eq_true rfl) rfl (by decide +kernel) rfl fun x1 => ?_
  refine z_iconst (n := 1) (v := 1) (q := 37) (by decide +kernel) rfl (by decide) ?_
  refine z_iadd (q := 38) (by decide +kernel) rfl ?_
  refine z_callVU (As := [.int 0, .int (x1 + 1)]) (st := []) (q := 41) (ct_X5_put_ g l v0 0 (x1 + 1)) zm_RX5_182 (rc_X5_put_ v0 0 (x1 + 1)) rfl (by decide) (by decide) (Nat.le_of_ble_eq_true rfl) rfl (by decide +kernel) rfl fun x3 => ?_
  exact z_vret (by decide +kernel)
def lb_X5_step_2 (v0 : Nat) (rec : (Int32) → zAH → Option (Unit × zAH)) (s : Int32) : zAH → Option (Unit × zAH) := fun h => (zgI 5 12 v0 h).bind fun x1 => if s < x1 then zbd (dn_X5_isDone v0 s h) fun x2 h3 => if x2 = 0 then zbd (dn_X5_goesOn v0 s h3) fun x4 h5 => jn_X5_step_23 rec v0 s h5 else jn_X5_step_23 rec v0 s h3 else jn_X5_step_29 v0 h
def lp_X5_step_2 (v0 : Nat) (s : Int32) : zAH → Option (Unit × zAH) := zlp (lb_X5_step_2 v0) 2000 s
theorem sl_X5_step_2 (g : zG) (l : Launch) (v0 : Nat) (s : Int32) : zSm g l cX5_step 2 RX5 "step" none 4 93 zrV 2 [(0, .ref v0), (1, .int s)] [] (lp_X5_step_2 v0 s) := by
  unfold lp_X5_step_2
  refine z_loop (lvf := fun s => [(0, .ref v0), (1, .int s)]) (fun rec hrec s => ?_) 2000 s
  unfold lb_X5_step_2
  refine z_iload_n (j := 1) (q := 3) (by decide +kernel) rfl 1 rfl ?_
  refine z_aload_n (j := 0) (q := 4) (by decide +kernel) rfl 0 rfl ?_
  refine z_getI (q := 7) zf_RX5_147 (by decide +kernel) rfl fun x1 => ?_
  refine z_icmp_ge (off := 22) (t := 29) (q := 10) (by decide +kernel) (by decide) rfl ?_ ?_
  · refine zsub [0] rfl ?_
    exact sj_X5_step_29 g l v0
  · refine z_aload_n (j := 0) (q := 11) (by decide +kernel) rfl 0 rfl ?_
    refine z_iload_n (j := 1) (q := 12) (by decide +kernel) rfl 1 rfl ?_
    refine z_callVI (As := [.int s]) (st := []) (q := 15) (ct_X5_isDone g l v0 s) zm_RX5_193 (rc_X5_isDone v0 s) rfl (by decide) (by decide) (Nat.le_of_ble_eq_true rfl) rfl (by decide +kernel) rfl fun x2 => ?_
    refine z_if_ne (off := 8) (t := 23) (q := 18) (by decide +kernel) (by decide) rfl ?_ ?_
    · refine zsub [0, 1] rfl ?_
      exact sj_X5_step_23 g l rec v0 s hrec
    · refine z_aload_n (j := 0) (q := 19) (by decide +kernel) rfl 0 rfl ?_
      refine z_iload_n (j := 1) (q := 20) (by decide +kernel) rfl 1 rfl ?_
      refine z_callVU (As := [.int s]) (st := []) (q := 23) (ct_X5_goesOn g l v0 s) zm_RX5_214 (rc_X5_goesOn v0 s) rfl (by decide) (by decide) (Nat.le_of_ble_eq_true rfl) rfl (by decide +kernel) rfl fun x4 => ?_
      refine zsub [0, 1] rfl ?_
      exact sj_X5_step_23 g l rec v0 s hrec
def dn_X5_step (v0 : Nat) : zAH → Option (Unit × zAH) := fun h => (zgO 5 v0 h).bind fun _ => lp_X5_step_2 v0 0 h
theorem ct_X5_step (g : zG) (l : Launch) (v0 : Nat) : zCt g l yX5_step cX5_step 2 none 4 93 zrV [.ref v0] (dn_X5_step v0) := by
  refine zCt_of (lv := [(0, .ref v0)]) (by decide +kernel) (Nat.le_of_ble_eq_true rfl) rfl ?_
  show zSm g l cX5_step 2 RX5 "step" none 4 93 zrV 0 [(0, .ref v0)] [] (dn_X5_step v0)
  unfold dn_X5_step
  refine z_rec ?_
  refine z_iconst (n := 0) (v := 0) (q := 1) (by decide +kernel) rfl (by decide) ?_
  refine z_istore_n (j := 1) (q := 2) (by decide +kernel) rfl (by decide) rfl ?_
  refine zsub [1, 0] rfl ?_
  exact sl_X5_step_2 g l v0 0
theorem rc_X5_step (v0 : Nat) : ∀ h x, dn_X5_step v0 h = some x → ∃ fs, zgO 5 v0 h = some fs := fun h x hd => by
  obtain ⟨fs, e, -⟩ := Option.bind_eq_some_iff.mp hd
  exact ⟨fs, e⟩
def jn_X5_toEnd_14 : zAH → Option (Unit × zAH) := fun h => some ((), h)
theorem sj_X5_toEnd_14 (g : zG) (l : Launch) : zSm g l cX5_toEnd 1 RX5 "toEnd" none 5 114 zrV 14 [] [] (jn_X5_toEnd_14) := by
  unfold jn_X5_toEnd_14
  exact z_vret (by decide +kernel)
def lb_X5_toEnd_0 (v0 : Nat) (rec : (Unit) → zAH → Option (Unit × zAH)) (s : Unit) : zAH → Option (Unit × zAH) := fun h => zbd (dn_X5_isEnd v0 h) fun x1 h2 => if x1 = 0 then zbd (dn_X5_step v0 h2) fun x3 h4 => rec () h4 else jn_X5_toEnd_14 h2
def lp_X5_toEnd_0 (v0 : Nat) (s : Unit) : zAH → Option (Unit × zAH) := zlp (lb_X5_toEnd_0 v0) 2000 s
theorem sl_X5_toEnd_0 (g : zG) (l : Launch) (v0 : Nat) (s : Unit) : zSm g l cX5_toEnd 1 RX5 "toEnd" none 5 114 zrV 0 [(0, .ref v0)] [] (lp_X5_toEnd_0 v0 s) := by
  unfold lp_X5_toEnd_0
  refine z_loop (lvf := fun s => [(0, .ref v0)]) (fun rec hrec s => ?_) 2000 s
  unfold lb_X5_toEnd_0
  refine z_aload_n (j := 0) (q := 1) (by decide +kernel) rfl 0 rfl ?_
  refine z_callVI (As := []) (st := []) (q := 4) (ct_X5_isEnd g l v0) zm_RX5_217 (rc_X5_isEnd v0) rfl (by decide) (by decide) (Nat.le_of_ble_eq_true rfl) rfl (by decide +kernel) rfl fun x1 => ?_
  refine z_if_ne (off := 10) (t := 14) (q := 7) (by decide +kernel) (by decide) rfl ?_ ?_
  · refine zsub [] rfl ?_
    exact sj_X5_toEnd_14 g l 
  · refine z_aload_n (j := 0) (q := 8) (by decide +kernel) rfl 0 rfl ?_
    refine z_callVU (As := []) (st := []) (q := 11) (ct_X5_step g l v0) zm_RX5_221 (rc_X5_step v0) rfl (by decide) (by decide) (Nat.le_of_ble_eq_true rfl) rfl (by decide +kernel) rfl fun x3 => ?_
    refine z_goto (off := (-11)) (t := 0) (by decide +kernel) (by decide) ?_
    refine zsub [0] rfl ?_
    exact hrec ()
def dn_X5_toEnd (v0 : Nat) : zAH → Option (Unit × zAH) := fun h => (zgO 5 v0 h).bind fun _ => lp_X5_toEnd_0 v0 () h
theorem ct_X5_toEnd (g : zG) (l : Launch) (v0 : Nat) : zCt g l yX5_toEnd cX5_toEnd 1 none 5 114 zrV [.ref v0] (dn_X5_toEnd v0) := by
  refine zCt_of (lv := [(0, .ref v0)]) (by decide +kernel) (Nat.le_of_ble_eq_true rfl) rfl ?_
  show zSm g l cX5_toEnd 1 RX5 "toEnd" none 5 114 zrV 0 [(0, .ref v0)] [] (dn_X5_toEnd v0)
  unfold dn_X5_toEnd
  refine z_rec ?_
  refine zsub [0] rfl ?_
  exact sl_X5_toEnd_0 g l v0 ()
theorem rc_X5_toEnd (v0 : Nat) : ∀ h x, dn_X5_toEnd v0 h = some x → ∃ fs, zgO 5 v0 h = some fs := fun h x hd => by
  obtain ⟨fs, e, -⟩ := Option.bind_eq_some_iff.mp hd
  exact ⟨fs, e⟩
def dn_X5_begin (v0 : Nat) : zAH → Option (Int32 × zAH) := fun h => (zgO 5 v0 h).bind fun _ => (zgI 5 10 v0 h).bind fun x1 => if x1 = 0 then some ((-4), h) else zbd (dn_X5_look v0 0 h) fun x2 h3 => zbd (dn_X5_begins v0 h3) fun x4 h5 => (zgI 5 12 v0 h5).bind fun x6 => some (x6, h5)
theorem ct_X5_begin (g : zG) (l : Launch) (v0 : Nat) : zCt g l yX5_begin cX5_begin 1 (some .int) 3 66 zrI [.ref v0] (dn_X5_begin v0) := by
  refine zCt_of (lv := [(0, .ref v0)]) (by decide +kernel) (Nat.le_of_ble_eq_true rfl) rfl ?_
  show zSm g l cX5_begin 1 RX5 "begin" (some .int) 3 66 zrI 0 [(0, .ref v0)] [] (dn_X5_begin v0)
  unfold dn_X5_begin
  refine z_rec ?_
  refine z_aload_n (j := 0) (q := 1) (by decide +kernel) rfl 0 rfl ?_
  refine z_getI (q := 4) zf_RX5_144 (by decide +kernel) rfl fun x1 => ?_
  refine z_if_ne (off := 6) (t := 10) (q := 7) (by decide +kernel) (by decide) rfl ?_ ?_
  · refine z_aload_n (j := 0) (q := 11) (by decide +kernel) rfl 0 rfl ?_
    refine z_iconst (n := 0) (v := 0) (q := 12) (by decide +kernel) rfl (by decide) ?_
    refine z_callVU (As := [.int 0]) (st := []) (q := 15) (ct_X5_look g l v0 0) zm_RX5_153 (rc_X5_look v0 0) rfl (by decide) (by decide) (Nat.le_of_ble_eq_true rfl) rfl (by decide +kernel) rfl fun x2 => ?_
    refine z_aload_n (j := 0) (q := 16) (by decide +kernel) rfl 0 rfl ?_
    refine z_callVU (As := []) (st := []) (q := 19) (ct_X5_begins g l v0) zm_RX5_157 (rc_X5_begins v0) rfl (by decide) (by decide) (Nat.le_of_ble_eq_true rfl) rfl (by decide +kernel) rfl fun x4 => ?_
    refine z_aload_n (j := 0) (q := 20) (by decide +kernel) rfl 0 rfl ?_
    refine z_getI (q := 23) zf_RX5_147 (by decide +kernel) rfl fun x6 => ?_
    exact z_iret (by decide +kernel)
  · refine z_bipush (n := (-4)) (v := (-4)) (q := 9) (by decide +kernel) rfl (by decide) ?_
    exact z_iret (by decide +kernel)
theorem rc_X5_begin (v0 : Nat) : ∀ h x, dn_X5_begin v0 h = some x → ∃ fs, zgO 5 v0 h = some fs := fun h x hd => by
  obtain ⟨fs, e, -⟩ := Option.bind_eq_some_iff.mp hd
  exact ⟨fs, e⟩
def jn_X5_go_55 (v0 : Nat) : zAH → Option (Int32 × zAH) := fun h => zbd (dn_X5_v v0 0 h) fun x1 h2 => some (x1, h2)
theorem sj_X5_go_55 (g : zG) (l : Launch) (v0 : Nat) : zSm g l cX5_go 3 RX5 "go" (some .int) 5 114 zrI 55 [(0, .ref v0)] [] (jn_X5_go_55 v0) := by
  unfold jn_X5_go_55
  refine z_aload_n (j := 0) (q := 56) (by decide +kernel) rfl 0 rfl ?_
  refine z_iconst (n := 0) (v := 0) (q := 57) (by decide +kernel) rfl (by decide) ?_
  refine z_callVI (As := [.int 0]) (st := []) (q := 60) (ct_X5_v g l v0 0) zm_RX5_190 (rc_X5_v v0 0) rfl (by decide) (by decide) (Nat.le_of_ble_eq_true rfl) rfl (by decide +kernel) rfl fun x1 => ?_
  exact z_iret (by decide +kernel)
def lb_X5_go_33 (v0 : Nat) (v1 : Int32) (rec : (Int32) → zAH → Option (Int32 × zAH)) (s : Int32) : zAH → Option (Int32 × zAH) := fun h => if s < v1 then zbd (dn_X5_isEnd v0 h) fun x1 h2 => if x1 = 0 then zbd (dn_X5_step v0 h2) fun x3 h4 => rec (s + 1) h4 else jn_X5_go_55 v0 h2 else jn_X5_go_55 v0 h
def lp_X5_go_33 (v0 : Nat) (v1 : Int32) (s : Int32) : zAH → Option (Int32 × zAH) := zlp (lb_X5_go_33 v0 v1) 2000 s
theorem sl_X5_go_33 (g : zG) (l : Launch) (v0 : Nat) (v1 : Int32) (s : Int32) : zSm g l cX5_go 3 RX5 "go" (some .int) 5 114 zrI 33 [(0, .ref v0), (1, .int v1), (2, .int s)] [] (lp_X5_go_33 v0 v1 s) := by
  unfold lp_X5_go_33
  refine z_loop (lvf := fun s => [(0, .ref v0), (1, .int v1), (2, .int s)]) (fun rec hrec s => ?_) 2000 s
  unfold lb_X5_go_33
  refine z_iload_n (j := 2) (q := 34) (by decide +kernel) rfl 2 rfl ?_
  refine z_iload_n (j := 1) (q := 35) (by decide +kernel) rfl 1 rfl ?_
  refine z_icmp_ge (off := 20) (t := 55) (q := 38) (by decide +kernel) (by decide) rfl ?_ ?_
  · refine zsub [0] rfl ?_
    exact sj_X5_go_55 g l v0
  · refine z_aload_n (j := 0) (q := 39) (by decide +kernel) rfl 0 rfl ?_
    refine z_callVI (As := []) (st := []) (q := 42) (ct_X5_isEnd g l v0) zm_RX5_217 (rc_X5_isEnd v0) rfl (by decide) (by decide) (Nat.le_of_ble_eq_true rfl) rfl (by decide +kernel) rfl fun x1 => ?_
    refine z_if_ne (off := 13) (t := 55) (q := 45) (by decide +kernel) (by decide) rfl ?_ ?_
    · refine zsub [0] rfl ?_
      exact sj_X5_go_55 g l v0
    · refine z_aload_n (j := 0) (q := 46) (by decide +kernel) rfl 0 rfl ?_
      refine z_callVU (As := []) (st := []) (q := 49) (ct_X5_step g l v0) zm_RX5_221 (rc_X5_step v0) rfl (by decide) (by decide) (Nat.le_of_ble_eq_true rfl) rfl (by decide +kernel) rfl fun x3 => ?_
      refine z_iinc (j := 2) (n := 1) (v := 1) (q := 52) (by decide +kernel) rfl 2 rfl (by decide) (by decide) rfl ?_
      refine z_goto (off := (-19)) (t := 33) (by decide +kernel) (by decide) ?_
      refine zsub [1, 2, 0] rfl ?_
      exact hrec (s + 1)
def dn_X5_go (v0 : Nat) (v1 : Int32) : zAH → Option (Int32 × zAH) := fun h => (zgO 5 v0 h).bind fun _ => zbd (dn_X5_in v1 0 60 h) fun x1 h2 => if x1 = 0 then some ((-1), h2) else (zgI 5 10 v0 h2).bind fun x3 => if x3 = 0 then some ((-4), h2) else zbd (dn_X5_look v0 0 h2) fun x4 h5 => zbd (dn_X5_noChoices v0 h5) fun x6 h7 => lp_X5_go_33 v0 v1 0 h7
theorem ct_X5_go (g : zG) (l : Launch) (v0 : Nat) (v1 : Int32) : zCt g l yX5_go cX5_go 3 (some .int) 5 114 zrI [.ref v0, .int v1] (dn_X5_go v0 v1) := by
  refine zCt_of (lv := [(0, .ref v0), (1, .int v1)]) (by decide +kernel) (Nat.le_of_ble_eq_true rfl) rfl ?_
  show zSm g l cX5_go 3 RX5 "go" (some .int) 5 114 zrI 0 [(0, .ref v0), (1, .int v1)] [] (dn_X5_go v0 v1)
  unfold dn_X5_go
  refine z_rec ?_
  refine z_iload_n (j := 1) (q := 1) (by decide +kernel) rfl 1 rfl ?_
  refine z_iconst (n := 0) (v := 0) (q := 2) (by decide +kernel) rfl (by decide) ?_
  refine z_bipush (n := 60) (v := 60) (q := 4) (by decide +kernel) rfl (by decide) ?_
  refine z_callSI (As := [.int v1, .int 0, .int 60]) (st := []) (q := 7) (ct_X5_in g l v1 0 60) zm_RX5_86 rfl (by decide) (by decide) (Nat.le_of_ble_eq_true rfl) rfl (by decide +kernel) rfl fun x1 => ?_
  refine z_if_ne (off := 5) (t := 12) (q := 10) (by decide +kernel) (by decide) rfl ?_ ?_
  · refine z_aload_n (j := 0) (q := 13) (by decide +kernel) rfl 0 rfl ?_
    refine z_getI (q := 16) zf_RX5_144 (by decide +kernel) rfl fun x3 => ?_
    refine z_if_ne (off := 6) (t := 22) (q := 19) (by decide +kernel) (by decide) rfl ?_ ?_
    · refine z_aload_n (j := 0) (q := 23) (by decide +kernel) rfl 0 rfl ?_
      refine z_iconst (n := 0) (v := 0) (q := 24) (by decide +kernel) rfl (by decide) ?_
      refine z_callVU (As := [.int 0]) (st := []) (q := 27) (ct_X5_look g l v0 0) zm_RX5_153 (rc_X5_look v0 0) rfl (by decide) (by decide) (Nat.le_of_ble_eq_true rfl) rfl (by decide +kernel) rfl fun x4 => ?_
      refine z_aload_n (j := 0) (q := 28) (by decide +kernel) rfl 0 rfl ?_
      refine z_callVU (As := []) (st := []) (q := 31) (ct_X5_noChoices g l v0) zm_RX5_224 (rc_X5_noChoices v0) rfl (by decide) (by decide) (Nat.le_of_ble_eq_true rfl) rfl (by decide +kernel) rfl fun x6 => ?_
      refine z_iconst (n := 0) (v := 0) (q := 32) (by decide +kernel) rfl (by decide) ?_
      refine z_istore_n (j := 2) (q := 33) (by decide +kernel) rfl (by decide) rfl ?_
      refine zsub [1, 2, 0] rfl ?_
      exact sl_X5_go_33 g l v0 v1 0
    · refine z_bipush (n := (-4)) (v := (-4)) (q := 21) (by decide +kernel) rfl (by decide) ?_
      exact z_iret (by decide +kernel)
  · refine z_iconst (n := (-1)) (v := (-1)) (q := 11) (by decide +kernel) rfl (by decide) ?_
    exact z_iret (by decide +kernel)
theorem rc_X5_go (v0 : Nat) (v1 : Int32) : ∀ h x, dn_X5_go v0 v1 h = some x → ∃ fs, zgO 5 v0 h = some fs := fun h x hd => by
  obtain ⟨fs, e, -⟩ := Option.bind_eq_some_iff.mp hd
  exact ⟨fs, e⟩
def jn_X5_isAhead_83 (w0 : Int32) : zAH → Option (Int32 × zAH) := fun h => if w0 = 0 ∨ w0 = 1 then some (w0, h) else none
theorem sj_X5_isAhead_83 (g : zG) (l : Launch) (w0 : Int32) : zSm g l cX5_isAhead 3 RX5 "isAhead" (some .boolean) 2 42 zrI 83 [] [.int w0] (jn_X5_isAhead_83 w0) := by
  unfold jn_X5_isAhead_83
  exact z_zret (by decide +kernel)
def jn_X5_isAhead_136 (w0 : Int32) : zAH → Option (Int32 × zAH) := fun h => if w0 = 0 ∨ w0 = 1 then some (w0, h) else none
theorem sj_X5_isAhead_136 (g : zG) (l : Launch) (w0 : Int32) : zSm g l cX5_isAhead 3 RX5 "isAhead" (some .boolean) 2 42 zrI 136 [] [.int w0] (jn_X5_isAhead_136 w0) := by
  unfold jn_X5_isAhead_136
  exact z_zret (by decide +kernel)
def dn_X5_isAhead (v0 : Nat) (v1 : Int32) (v2 : Int32) : zAH → Option (Int32 × zAH) := fun h => (zgO 5 v0 h).bind fun _ => zbd (dn_X5_isDone v0 v1 h) fun x1 h2 => zbd (dn_X5_isDone v0 v2 h2) fun x3 h4 => if x1 = x3 then zbd (dn_X5_isDone v0 v1 h4) fun x5 h6 => if x5 = 0 then zbd (dn_X5_v v0 (3 + v1) h6) fun x7 h8 => zbd (dn_X5_v v0 (3 + v2) h8) fun x9 h10 => if x7 = x9 then if v1 < v2 then jn_X5_isAhead_136 1 h10 else jn_X5_isAhead_136 0 h10 else zbd (dn_X5_v v0 (3 + v1) h10) fun x11 h12 => zbd (dn_X5_v v0 (3 + v2) h12) fun x13 h14 => if x13 < x11 then jn_X5_isAhead_136 1 h14 else jn_X5_isAhead_136 0 h14 else zbd (dn_X5_v v0 (13 + v1) h6) fun x15 h16 => zbd (dn_X5_v v0 (13 + v2) h16) fun x17 h18 => if x15 = x17 then if v1 < v2 then jn_X5_isAhead_83 1 h18 else jn_X5_isAhead_83 0 h18 else zbd (dn_X5_v v0 (13 + v1) h18) fun x19 h20 => zbd (dn_X5_v v0 (13 + v2) h20) fun x21 h22 => if x19 < x21 then jn_X5_isAhead_83 1 h22 else jn_X5_isAhead_83 0 h22 else zbd (dn_X5_isDone v0 v1 h4) fun x23 h24 => if x23 = 0 ∨ x23 = 1 then some (x23, h24) else none
theorem ct_X5_isAhead (g : zG) (l : Launch) (v0 : Nat) (v1 : Int32) (v2 : Int32) : zCt g l yX5_isAhead cX5_isAhead 3 (some .boolean) 2 42 zrI [.ref v0, .int v1, .int v2] (dn_X5_isAhead v0 v1 v2) := by
  refine zCt_of (lv := [(0, .ref v0), (1, .int v1), (2, .int v2)]) (by decide +kernel) (Nat.le_of_ble_eq_true rfl) rfl ?_
  show zSm g l cX5_isAhead 3 RX5 "isAhead" (some .boolean) 2 42 zrI 0 [(0, .ref v0), (1, .int v1), (2, .int v2)] [] (dn_X5_isAhead v0 v1 v2)
  unfold dn_X5_isAhead
  refine z_rec ?_
  refine z_aload_n (j := 0) (q := 1) (by decide +kernel) rfl 0 rfl ?_
  refine z_iload_n (j := 1) (q := 2) (by decide +kernel) rfl 1 rfl ?_
  refine z_callVI (As := [.int v1]) (st := []) (q := 5) (ct_X5_isDone g l v0 v1) zm_RX5_193 (rc_X5_isDone v0 v1) rfl (by decide) (by decide) (Nat.le_of_ble_eq_true rfl) rfl (by decide +kernel) rfl fun x1 => ?_
  refine z_aload_n (j := 0) (q := 6) (by decide +kernel) rfl 0 rfl ?_
  refine z_iload_n (j := 2) (q := 7) (by decide +kernel) rfl 2 rfl ?_
  refine z_callVI (As := [.int v2]) (st := [.int x1]) (q := 10) (ct_X5_isDone g l v0 v2) zm_RX5_193 (rc_X5_isDone v0 v2) rfl (by decide) (by decide) (Nat.le_of_ble_eq_true rfl) rfl (by decide +kernel) rfl fun x3 => ?_
  refine z_icmp_eq (off := 9) (t := 19) (q := 13) (by decide +kernel) (by decide) rfl ?_ ?_
  · refine z_aload_n (j := 0) (q := 20) (by decide +kernel) rfl 0 rfl ?_
    refine z_iload_n (j := 1) (q := 21) (by decide +kernel) rfl 1 rfl ?_
    refine z_callVI (As := [.int v1]) (st := []) (q := 24) (ct_X5_isDone g l v0 v1) zm_RX5_193 (rc_X5_isDone v0 v1) rfl (by decide) (by decide) (Nat.le_of_ble_eq_true rfl) rfl (by decide +kernel) rfl fun x5 => ?_
    refine z_if_eq (off := 60) (t := 84) (q := 27) (by decide +kernel) (by decide) rfl ?_ ?_
    · refine z_aload_n (j := 0) (q := 85) (by decide +kernel) rfl 0 rfl ?_
      refine z_iconst (n := 3) (v := 3) (q := 86) (by decide +kernel) rfl (by decide) ?_
      refine z_iload_n (j := 1) (q := 87) (by decide +kernel) rfl 1 rfl ?_
      refine z_iadd (q := 88) (by decide +kernel) rfl ?_
      refine z_callVI (As := [.int (3 + v1)]) (st := []) (q := 91) (ct_X5_v g l v0 (3 + v1)) zm_RX5_190 (rc_X5_v v0 (3 + v1)) rfl (by decide) (by decide) (Nat.le_of_ble_eq_true rfl) rfl (by decide +kernel) rfl fun x7 => ?_
      refine z_aload_n (j := 0) (q := 92) (by decide +kernel) rfl 0 rfl ?_
      refine z_iconst (n := 3) (v := 3) (q := 93) (by decide +kernel) rfl (by decide) ?_
      refine z_iload_n (j := 2) (q := 94) (by decide +kernel) rfl 2 rfl ?_
      refine z_iadd (q := 95) (by decide +kernel) rfl ?_
      refine z_callVI (As := [.int (3 + v2)]) (st := [.int x7]) (q := 98) (ct_X5_v g l v0 (3 + v2)) zm_RX5_190 (rc_X5_v v0 (3 + v2)) rfl (by decide) (by decide) (Nat.le_of_ble_eq_true rfl) rfl (by decide +kernel) rfl fun x9 => ?_
      refine z_icmp_eq (off := 28) (t := 126) (q := 101) (by decide +kernel) (by decide) rfl ?_ ?_
      · refine z_iload_n (j := 1) (q := 127) (by decide +kernel) rfl 1 rfl ?_
        refine z_iload_n (j := 2) (q := 128) (by decide +kernel) rfl 2 rfl ?_
        refine z_icmp_ge (off := 7) (t := 135) (q := 131) (by decide +kernel) (by decide) rfl ?_ ?_
        · refine z_iconst (n := 0) (v := 0) (q := 136) (by decide +kernel) rfl (by decide) ?_
          refine zsub [] rfl ?_
          exact sj_X5_isAhead_136 g l 0
        · refine z_iconst (n := 1) (v := 1) (q := 132) (by decide +kernel) rfl (by decide) ?_
          refine z_goto (off := 4) (t := 136) (by decide +kernel) (by decide) ?_
          refine zsub [] rfl ?_
          exact sj_X5_isAhead_136 g l 1
      · refine z_aload_n (j := 0) (q := 102) (by decide +kernel) rfl 0 rfl ?_
        refine z_iconst (n := 3) (v := 3) (q := 103) (by decide +kernel) rfl (by decide) ?_
        refine z_iload_n (j := 1) (q := 104) (by decide +kernel) rfl 1 rfl ?_
        refine z_iadd (q := 105) (by decide +kernel) rfl ?_
        refine z_callVI (As := [.int (3 + v1)]) (st := []) (q := 108) (ct_X5_v g l v0 (3 + v1)) zm_RX5_190 (rc_X5_v v0 (3 + v1)) rfl (by decide) (by decide) (Nat.le_of_ble_eq_true rfl) rfl (by decide +kernel) rfl fun x11 => ?_
        refine z_aload_n (j := 0) (q := 109) (by decide +kernel) rfl 0 rfl ?_
        refine z_iconst (n := 3) (v := 3) (q := 110) (by decide +kernel) rfl (by decide) ?_
        refine z_iload_n (j := 2) (q := 111) (by decide +kernel) rfl 2 rfl ?_
        refine z_iadd (q := 112) (by decide +kernel) rfl ?_
        refine z_callVI (As := [.int (3 + v2)]) (st := [.int x11]) (q := 115) (ct_X5_v g l v0 (3 + v2)) zm_RX5_190 (rc_X5_v v0 (3 + v2)) rfl (by decide) (by decide) (Nat.le_of_ble_eq_true rfl) rfl (by decide +kernel) rfl fun x13 => ?_
        refine z_icmp_le (off := 7) (t := 122) (q := 118) (by decide +kernel) (by decide) rfl ?_ ?_
        · refine z_iconst (n := 0) (v := 0) (q := 123) (by decide +kernel) rfl (by decide) ?_
          refine z_goto (off := 13) (t := 136) (by decide +kernel) (by decide) ?_
          refine zsub [] rfl ?_
          exact sj_X5_isAhead_136 g l 0
        · refine z_iconst (n := 1) (v := 1) (q := 119) (by decide +kernel) rfl (by decide) ?_
          refine z_goto (off := 17) (t := 136) (by decide +kernel) (by decide) ?_
          refine zsub [] rfl ?_
          exact sj_X5_isAhead_136 g l 1
    · refine z_aload_n (j := 0) (q := 28) (by decide +kernel) rfl 0 rfl ?_
      refine z_bipush (n := 13) (v := 13) (q := 30) (by decide +kernel) rfl (by decide) ?_
      refine z_iload_n (j := 1) (q := 31) (by decide +kernel) rfl 1 rfl ?_
      refine z_iadd (q := 32) (by decide +kernel) rfl ?_
      refine z_callVI (As := [.int (13 + v1)]) (st := []) (q := 35) (ct_X5_v g l v0 (13 + v1)) zm_RX5_190 (rc_X5_v v0 (13 + v1)) rfl (by decide) (by decide) (Nat.le_of_ble_eq_true rfl) rfl (by decide +kernel) rfl fun x15 => ?_
      refine z_aload_n (j := 0) (q := 36) (by decide +kernel) rfl 0 rfl ?_
      refine z_bipush (n := 13) (v := 13) (q := 38) (by decide +kernel) rfl (by decide) ?_
      refine z_iload_n (j := 2) (q := 39) (by decide +kernel) rfl 2 rfl ?_
      refine z_iadd (q := 40) (by decide +kernel) rfl ?_
      refine z_callVI (As := [.int (13 + v2)]) (st := [.int x15]) (q := 43) (ct_X5_v g l v0 (13 + v2)) zm_RX5_190 (rc_X5_v v0 (13 + v2)) rfl (by decide) (by decide) (Nat.le_of_ble_eq_true rfl) rfl (by decide +kernel) rfl fun x17 => ?_
      refine z_icmp_eq (off := 30) (t := 73) (q := 46) (by decide +kernel) (by decide) rfl ?_ ?_
      · refine z_iload_n (j := 1) (q := 74) (by decide +kernel) rfl 1 rfl ?_
        refine z_iload_n (j := 2) (q := 75) (by decide +kernel) rfl 2 rfl ?_
        refine z_icmp_ge (off := 7) (t := 82) (q := 78) (by decide +kernel) (by decide) rfl ?_ ?_
        · refine z_iconst (n := 0) (v := 0) (q := 83) (by decide +kernel) rfl (by decide) ?_
          refine zsub [] rfl ?_
          exact sj_X5_isAhead_83 g l 0
        · refine z_iconst (n := 1) (v := 1) (q := 79) (by decide +kernel) rfl (by decide) ?_
          refine z_goto (off := 4) (t := 83) (by decide +kernel) (by decide) ?_
          refine zsub [] rfl ?_
          exact sj_X5_isAhead_83 g l 1
      · refine z_aload_n (j := 0) (q := 47) (by decide +kernel) rfl 0 rfl ?_
        refine z_bipush (n := 13) (v := 13) (q := 49) (by decide +kernel) rfl (by decide) ?_
        refine z_iload_n (j := 1) (q := 50) (by decide +kernel) rfl 1 rfl ?_
        refine z_iadd (q := 51) (by decide +kernel) rfl ?_
        refine z_callVI (As := [.int (13 + v1)]) (st := []) (q := 54) (ct_X5_v g l v0 (13 + v1)) zm_RX5_190 (rc_X5_v v0 (13 + v1)) rfl (by decide) (by decide) (Nat.le_of_ble_eq_true rfl) rfl (by decide +kernel) rfl fun x19 => ?_
        refine z_aload_n (j := 0) (q := 55) (by decide +kernel) rfl 0 rfl ?_
        refine z_bipush (n := 13) (v := 13) (q := 57) (by decide +kernel) rfl (by decide) ?_
        refine z_iload_n (j := 2) (q := 58) (by decide +kernel) rfl 2 rfl ?_
        refine z_iadd (q := 59) (by decide +kernel) rfl ?_
        refine z_callVI (As := [.int (13 + v2)]) (st := [.int x19]) (q := 62) (ct_X5_v g l v0 (13 + v2)) zm_RX5_190 (rc_X5_v v0 (13 + v2)) rfl (by decide) (by decide) (Nat.le_of_ble_eq_true rfl) rfl (by decide +kernel) rfl fun x21 => ?_
        refine z_icmp_ge (off := 7) (t := 69) (q := 65) (by decide +kernel) (by decide) rfl ?_ ?_
        · refine z_iconst (n := 0) (v := 0) (q := 70) (by decide +kernel) rfl (by decide) ?_
          refine z_goto (off := 13) (t := 83) (by decide +kernel) (by decide) ?_
          refine zsub [] rfl ?_
          exact sj_X5_isAhead_83 g l 0
        · refine z_iconst (n := 1) (v := 1) (q := 66) (by decide +kernel) rfl (by decide) ?_
          refine z_goto (off := 17) (t := 83) (by decide +kernel) (by decide) ?_
          refine zsub [] rfl ?_
          exact sj_X5_isAhead_83 g l 1
  · refine z_aload_n (j := 0) (q := 14) (by decide +kernel) rfl 0 rfl ?_
    refine z_iload_n (j := 1) (q := 15) (by decide +kernel) rfl 1 rfl ?_
    refine z_callVI (As := [.int v1]) (st := []) (q := 18) (ct_X5_isDone g l v0 v1) zm_RX5_193 (rc_X5_isDone v0 v1) rfl (by decide) (by decide) (Nat.le_of_ble_eq_true rfl) rfl (by decide +kernel) rfl fun x23 => ?_
    exact z_zret (by decide +kernel)
theorem rc_X5_isAhead (v0 : Nat) (v1 : Int32) (v2 : Int32) : ∀ h x, dn_X5_isAhead v0 v1 v2 h = some x → ∃ fs, zgO 5 v0 h = some fs := fun h x hd => by
  obtain ⟨fs, e, -⟩ := Option.bind_eq_some_iff.mp hd
  exact ⟨fs, e⟩
def jn_X5_rankOf_32 (kc4 : (Int32 × Int32) → zAH → Option (Int32 × zAH)) (v0 : Nat) (v1 : Int32) (v3 : Int32) (w0 : Int32) (w1 : Int32) : zAH → Option (Int32 × zAH) := fun h => kc4 (w0 + w1, v3 + 1) h
theorem sj_X5_rankOf_32 (g : zG) (l : Launch) (kc4 : (Int32 × Int32) → zAH → Option (Int32 × zAH)) (v0 : Nat) (v1 : Int32) (v3 : Int32) (w0 : Int32) (w1 : Int32) (hkc4 : ∀ s, zSm g l cX5_rankOf 4 RX5 "rankOf" (some .int) 3 64 zrI 4 [(0, .ref v0), (1, .int v1), (2, .int s.1), (3, .int s.2)] [] (kc4 s)) : zSm g l cX5_rankOf 4 RX5 "rankOf" (some .int) 3 64 zrI 32 [(0, .ref v0), (1, .int v1), (3, .int v3)] [.int w1, .int w0] (jn_X5_rankOf_32 kc4 v0 v1 v3 w0 w1) := by
  unfold jn_X5_rankOf_32
  refine z_iadd (q := 33) (by decide +kernel) rfl ?_
  refine z_istore_n (j := 2) (q := 34) (by decide +kernel) rfl (by decide) rfl ?_
  refine z_iinc (j := 3) (n := 1) (v := 1) (q := 37) (by decide +kernel) rfl 3 rfl (by decide) (by decide) rfl ?_
  refine z_goto (off := (-33)) (t := 4) (by decide +kernel) (by decide) ?_
  refine zsub [2, 3, 1, 0] rfl ?_
  exact hkc4 (w0 + w1, v3 + 1)
def jn_X5_rankOf_31 (kc4 : (Int32 × Int32) → zAH → Option (Int32 × zAH)) (v0 : Nat) (v1 : Int32) (v3 : Int32) (w0 : Int32) : zAH → Option (Int32 × zAH) := fun h => jn_X5_rankOf_32 kc4 v0 v1 v3 w0 0 h
theorem sj_X5_rankOf_31 (g : zG) (l : Launch) (kc4 : (Int32 × Int32) → zAH → Option (Int32 × zAH)) (v0 : Nat) (v1 : Int32) (v3 : Int32) (w0 : Int32) (hkc4 : ∀ s, zSm g l cX5_rankOf 4 RX5 "rankOf" (some .int) 3 64 zrI 4 [(0, .ref v0), (1, .int v1), (2, .int s.1), (3, .int s.2)] [] (kc4 s)) : zSm g l cX5_rankOf 4 RX5 "rankOf" (some .int) 3 64 zrI 31 [(0, .ref v0), (1, .int v1), (3, .int v3)] [.int w0] (jn_X5_rankOf_31 kc4 v0 v1 v3 w0) := by
  unfold jn_X5_rankOf_31
  refine z_iconst (n := 0) (v := 0) (q := 32) (by decide +kernel) rfl (by decide) ?_
  refine zsub [0, 1, 2] rfl ?_
  exact sj_X5_rankOf_32 g l kc4 v0 v1 v3 w0 0 hkc4
def jn_X5_rankOf_40 (v2 : Int32) : zAH → Option (Int32 × zAH) := fun h => some (v2, h)
theorem sj_X5_rankOf_40 (g : zG) (l : Launch) (v2 : Int32) : zSm g l cX5_rankOf 4 RX5 "rankOf" (some .int) 3 64 zrI 40 [(2, .int v2)] [] (jn_X5_rankOf_40 v2) := by
  unfold jn_X5_rankOf_40
  refine z_iload_n (j := 2) (q := 41) (by decide +kernel) rfl 0 rfl ?_
  exact z_iret (by decide +kernel)
def lb_X5_rankOf_4 (v0 : Nat) (v1 : Int32) (rec : (Int32 × Int32) → zAH → Option (Int32 × zAH)) (s : Int32 × Int32) : zAH → Option (Int32 × zAH) := fun h => (zgI 5 12 v0 h).bind fun x1 => if s.2 < x1 then if s.2 = v1 then jn_X5_rankOf_31 rec v0 v1 s.2 s.1 h else zbd (dn_X5_isAhead v0 s.2 v1 h) fun x2 h3 => if x2 = 0 then jn_X5_rankOf_31 rec v0 v1 s.2 s.1 h3 else jn_X5_rankOf_32 rec v0 v1 s.2 s.1 1 h3 else jn_X5_rankOf_40 s.1 h
def lp_X5_rankOf_4 (v0 : Nat) (v1 : Int32) (s : Int32 × Int32) : zAH → Option (Int32 × zAH) := zlp (lb_X5_rankOf_4 v0 v1) 2000 s
theorem sl_X5_rankOf_4 (g : zG) (l : Launch) (v0 : Nat) (v1 : Int32) (s : Int32 × Int32) : zSm g l cX5_rankOf 4 RX5 "rankOf" (some .int) 3 64 zrI 4 [(0, .ref v0), (1, .int v1), (2, .int s.1), (3, .int s.2)] [] (lp_X5_rankOf_4 v0 v1 s) := by
  unfold lp_X5_rankOf_4
  refine z_loop (lvf := fun s => [(0, .ref v0), (1, .int v1), (2, .int s.1), (3, .int s.2)]) (fun rec hrec s => ?_) 2000 s
  unfold lb_X5_rankOf_4
  refine z_iload_n (j := 3) (q := 5) (by decide +kernel) rfl 3 rfl ?_
  refine z_aload_n (j := 0) (q := 6) (by decide +kernel) rfl 0 rfl ?_
  refine z_getI (q := 9) zf_RX5_147 (by decide +kernel) rfl fun x1 => ?_
  refine z_icmp_ge (off := 31) (t := 40) (q := 12) (by decide +kernel) (by decide) rfl ?_ ?_
  · refine zsub [2] rfl ?_
    exact sj_X5_rankOf_40 g l s.1
  · refine z_iload_n (j := 2) (q := 13) (by decide +kernel) rfl 2 rfl ?_
    refine z_iload_n (j := 3) (q := 14) (by decide +kernel) rfl 3 rfl ?_
    refine z_iload_n (j := 1) (q := 15) (by decide +kernel) rfl 1 rfl ?_
    refine z_icmp_eq (off := 16) (t := 31) (q := 18) (by decide +kernel) (by decide) rfl ?_ ?_
    · refine zsub [0, 1, 3] rfl ?_
      exact sj_X5_rankOf_31 g l rec v0 v1 s.2 s.1 hrec
    · refine z_aload_n (j := 0) (q := 19) (by decide +kernel) rfl 0 rfl ?_
      refine z_iload_n (j := 3) (q := 20) (by decide +kernel) rfl 3 rfl ?_
      refine z_iload_n (j := 1) (q := 21) (by decide +kernel) rfl 1 rfl ?_
      refine z_callVI (As := [.int s.2, .int v1]) (st := [.int s.1]) (q := 24) (ct_X5_isAhead g l v0 s.2 v1) zm_RX5_227 (rc_X5_isAhead v0 s.2 v1) rfl (by decide) (by decide) (Nat.le_of_ble_eq_true rfl) rfl (by decide +kernel) rfl fun x2 => ?_
      refine z_if_eq (off := 7) (t := 31) (q := 27) (by decide +kernel) (by decide) rfl ?_ ?_
      · refine zsub [0, 1, 3] rfl ?_
        exact sj_X5_rankOf_31 g l rec v0 v1 s.2 s.1 hrec
      · refine z_iconst (n := 1) (v := 1) (q := 28) (by decide +kernel) rfl (by decide) ?_
        refine z_goto (off := 4) (t := 32) (by decide +kernel) (by decide) ?_
        refine zsub [0, 1, 3] rfl ?_
        exact sj_X5_rankOf_32 g l rec v0 v1 s.2 s.1 1 hrec
def dn_X5_rankOf (v0 : Nat) (v1 : Int32) : zAH → Option (Int32 × zAH) := fun h => (zgO 5 v0 h).bind fun _ => lp_X5_rankOf_4 v0 v1 (1, 0) h
theorem ct_X5_rankOf (g : zG) (l : Launch) (v0 : Nat) (v1 : Int32) : zCt g l yX5_rankOf cX5_rankOf 4 (some .int) 3 64 zrI [.ref v0, .int v1] (dn_X5_rankOf v0 v1) := by
  refine zCt_of (lv := [(0, .ref v0), (1, .int v1)]) (by decide +kernel) (Nat.le_of_ble_eq_true rfl) rfl ?_
  show zSm g l cX5_rankOf 4 RX5 "rankOf" (some .int) 3 64 zrI 0 [(0, .ref v0), (1, .int v1)] [] (dn_X5_rankOf v0 v1)
  unfold dn_X5_rankOf
  refine z_rec ?_
  refine z_iconst (n := 1) (v := 1) (q := 1) (by decide +kernel) rfl (by decide) ?_
  refine z_istore_n (j := 2) (q := 2) (by decide +kernel) rfl (by decide) rfl ?_
  refine z_iconst (n := 0) (v := 0) (q := 3) (by decide +kernel) rfl (by decide) ?_
  refine z_istore_n (j := 3) (q := 4) (by decide +kernel) rfl (by decide) rfl ?_
  refine zsub [2, 3, 1, 0] rfl ?_
  exact sl_X5_rankOf_4 g l v0 v1 (1, 0)
theorem rc_X5_rankOf (v0 : Nat) (v1 : Int32) : ∀ h x, dn_X5_rankOf v0 v1 h = some x → ∃ fs, zgO 5 v0 h = some fs := fun h x hd => by
  obtain ⟨fs, e, -⟩ := Option.bind_eq_some_iff.mp hd
  exact ⟨fs, e⟩
def dn_X5_raceTells (v0 : Nat) (v1 : Int32) (v2 : Int32) : zAH → Option (Int32 × zAH) := fun h => (zgO 5 v0 h).bind fun _ => if v2 = 0 then (zgI 5 10 v0 h).bind fun x1 => zbd (dn_X5_v v0 (3 + v1) h) fun x2 h3 => zbd (dn_X5_lesser x1 x2 h3) fun x4 h5 => some (x4, h5) else if v2 = 1 then zbd (dn_X5_v v0 (8 + v1) h) fun x7 h8 => some (x7, h8) else if v2 = 2 then zbd (dn_X5_v v0 (13 + v1) h) fun x10 h11 => some (x10, h11) else if v2 = 3 then zbd (dn_X5_rankOf v0 v1 h) fun x13 h14 => some (x13, h14) else zbd (dn_X5_v v0 (18 + v1) h) fun x16 h17 => some (x16, h17)
theorem ct_X5_raceTells (g : zG) (l : Launch) (v0 : Nat) (v1 : Int32) (v2 : Int32) : zCt g l yX5_raceTells cX5_raceTells 3 (some .int) 4 87 zrI [.ref v0, .int v1, .int v2] (dn_X5_raceTells v0 v1 v2) := by
  refine zCt_of (lv := [(0, .ref v0), (1, .int v1), (2, .int v2)]) (by decide +kernel) (Nat.le_of_ble_eq_true rfl) rfl ?_
  show zSm g l cX5_raceTells 3 RX5 "raceTells" (some .int) 4 87 zrI 0 [(0, .ref v0), (1, .int v1), (2, .int v2)] [] (dn_X5_raceTells v0 v1 v2)
  unfold dn_X5_raceTells
  refine z_rec ?_
  refine z_iload_n (j := 2) (q := 1) (by decide +kernel) rfl 2 rfl ?_
  refine z_case (fun c6 => ?_) (fun c6 => ?_)
  · refine z_tabIn (v := 0) (off := 31) (t := 32) c6 (by decide +kernel : decode cX5_raceTells 1 = .ok (.tableswitch 70 0 3 #[31, 46, 55, 64], 31)) (by decide) (by decide) (by decide) (by decide) ?_
    refine z_aload_n (j := 0) (q := 33) (by decide +kernel) rfl 0 rfl ?_
    refine z_getI (q := 36) zf_RX5_144 (by decide +kernel) rfl fun x1 => ?_
    refine z_aload_n (j := 0) (q := 37) (by decide +kernel) rfl 0 rfl ?_
    refine z_iconst (n := 3) (v := 3) (q := 38) (by decide +kernel) rfl (by decide) ?_
    refine z_iload_n (j := 1) (q := 39) (by decide +kernel) rfl 1 rfl ?_
    refine z_iadd (q := 40) (by decide +kernel) rfl ?_
    refine z_callVI (As := [.int (3 + v1)]) (st := [.int x1]) (q := 43) (ct_X5_v g l v0 (3 + v1)) zm_RX5_190 (rc_X5_v v0 (3 + v1)) rfl (by decide) (by decide) (Nat.le_of_ble_eq_true rfl) rfl (by decide +kernel) rfl fun x2 => ?_
    refine z_callSI (As := [.int x1, .int x2]) (st := []) (q := 46) (ct_X5_lesser g l x1 x2) zm_RX5_202 rfl (by decide) (by decide) (Nat.le_of_ble_eq_true rfl) rfl (by decide +kernel) rfl fun x4 => ?_
    exact z_iret (by decide +kernel)
  · skip
    refine z_case (fun c9 => ?_) (fun c9 => ?_)
    · refine z_tabIn (v := 1) (off := 46) (t := 47) c9 (by decide +kernel : decode cX5_raceTells 1 = .ok (.tableswitch 70 0 3 #[31, 46, 55, 64], 31)) (by decide) (by decide) (by decide) (by decide) ?_
      refine z_aload_n (j := 0) (q := 48) (by decide +kernel) rfl 0 rfl ?_
      refine z_bipush (n := 8) (v := 8) (q := 50) (by decide +kernel) rfl (by decide) ?_
      refine z_iload_n (j := 1) (q := 51) (by decide +kernel) rfl 1 rfl ?_
      refine z_iadd (q := 52) (by decide +kernel) rfl ?_
      refine z_callVI (As := [.int (8 + v1)]) (st := []) (q := 55) (ct_X5_v g l v0 (8 + v1)) zm_RX5_190 (rc_X5_v v0 (8 + v1)) rfl (by decide) (by decide) (Nat.le_of_ble_eq_true rfl) rfl (by decide +kernel) rfl fun x7 => ?_
      exact z_iret (by decide +kernel)
    · skip
      refine z_case (fun c12 => ?_) (fun c12 => ?_)
      · refine z_tabIn (v := 2) (off := 55) (t := 56) c12 (by decide +kernel : decode cX5_raceTells 1 = .ok (.tableswitch 70 0 3 #[31, 46, 55, 64], 31)) (by decide) (by decide) (by decide) (by decide) ?_
        refine z_aload_n (j := 0) (q := 57) (by decide +kernel) rfl 0 rfl ?_
        refine z_bipush (n := 13) (v := 13) (q := 59) (by decide +kernel) rfl (by decide) ?_
        refine z_iload_n (j := 1) (q := 60) (by decide +kernel) rfl 1 rfl ?_
        refine z_iadd (q := 61) (by decide +kernel) rfl ?_
        refine z_callVI (As := [.int (13 + v1)]) (st := []) (q := 64) (ct_X5_v g l v0 (13 + v1)) zm_RX5_190 (rc_X5_v v0 (13 + v1)) rfl (by decide) (by decide) (Nat.le_of_ble_eq_true rfl) rfl (by decide +kernel) rfl fun x10 => ?_
        exact z_iret (by decide +kernel)
      · skip
        refine z_case (fun c15 => ?_) (fun c15 => ?_)
        · refine z_tabIn (v := 3) (off := 64) (t := 65) c15 (by decide +kernel : decode cX5_raceTells 1 = .ok (.tableswitch 70 0 3 #[31, 46, 55, 64], 31)) (by decide) (by decide) (by decide) (by decide) ?_
          refine z_aload_n (j := 0) (q := 66) (by decide +kernel) rfl 0 rfl ?_
          refine z_iload_n (j := 1) (q := 67) (by decide +kernel) rfl 1 rfl ?_
          refine z_callVI (As := [.int v1]) (st := []) (q := 70) (ct_X5_rankOf g l v0 v1) zm_RX5_231 (rc_X5_rankOf v0 v1) rfl (by decide) (by decide) (Nat.le_of_ble_eq_true rfl) rfl (by decide +kernel) rfl fun x13 => ?_
          exact z_iret (by decide +kernel)
        · skip
          have nc6 := lv_neT (a := 0) c6 (by decide)
          have nc9 := lv_neT (a := 1) c9 (by decide)
          have nc12 := lv_neT (a := 2) c12 (by decide)
          have nc15 := lv_neT (a := 3) c15 (by decide)
          refine z_tabOut (t := 71) (by decide +kernel : decode cX5_raceTells 1 = .ok (.tableswitch 70 0 3 #[31, 46, 55, 64], 31)) (Or.inl (by omega)) (by decide) ?_
          refine z_aload_n (j := 0) (q := 72) (by decide +kernel) rfl 0 rfl ?_
          refine z_bipush (n := 18) (v := 18) (q := 74) (by decide +kernel) rfl (by decide) ?_
          refine z_iload_n (j := 1) (q := 75) (by decide +kernel) rfl 1 rfl ?_
          refine z_iadd (q := 76) (by decide +kernel) rfl ?_
          refine z_callVI (As := [.int (18 + v1)]) (st := []) (q := 79) (ct_X5_v g l v0 (18 + v1)) zm_RX5_190 (rc_X5_v v0 (18 + v1)) rfl (by decide) (by decide) (Nat.le_of_ble_eq_true rfl) rfl (by decide +kernel) rfl fun x16 => ?_
          exact z_iret (by decide +kernel)
theorem rc_X5_raceTells (v0 : Nat) (v1 : Int32) (v2 : Int32) : ∀ h x, dn_X5_raceTells v0 v1 v2 h = some x → ∃ fs, zgO 5 v0 h = some fs := fun h x hd => by
  obtain ⟨fs, e, -⟩ := Option.bind_eq_some_iff.mp hd
  exact ⟨fs, e⟩
def jn_X5_told_17 : zAH → Option (Int32 × zAH) := fun h => some ((-1), h)
theorem sj_X5_told_17 (g : zG) (l : Launch) : zSm g l cX5_told 3 RX5 "told" (some .int) 5 109 zrI 17 [] [] (jn_X5_told_17) := by
  unfold jn_X5_told_17
  refine z_iconst (n := (-1)) (v := (-1)) (q := 18) (by decide +kernel) rfl (by decide) ?_
  exact z_iret (by decide +kernel)
def dn_X5_told (v0 : Nat) (v1 : Int32) (v2 : Int32) : zAH → Option (Int32 × zAH) := fun h => (zgO 5 v0 h).bind fun _ => zbd (dn_X5_isRunner v0 v1 h) fun x1 h2 => if x1 = 0 then jn_X5_told_17 h2 else zbd (dn_X5_in v2 0 4 h2) fun x3 h4 => if x3 = 0 then jn_X5_told_17 h4 else zbd (dn_X5_look v0 0 h4) fun x5 h6 => zbd (dn_X5_raceTells v0 v1 v2 h6) fun x7 h8 => zbd (dn_X5_tells v0 x7 1 h8) fun x9 h10 => some (x9, h10)
theorem ct_X5_told (g : zG) (l : Launch) (v0 : Nat) (v1 : Int32) (v2 : Int32) : zCt g l yX5_told cX5_told 3 (some .int) 5 109 zrI [.ref v0, .int v1, .int v2] (dn_X5_told v0 v1 v2) := by
  refine zCt_of (lv := [(0, .ref v0), (1, .int v1), (2, .int v2)]) (by decide +kernel) (Nat.le_of_ble_eq_true rfl) rfl ?_
  show zSm g l cX5_told 3 RX5 "told" (some .int) 5 109 zrI 0 [(0, .ref v0), (1, .int v1), (2, .int v2)] [] (dn_X5_told v0 v1 v2)
  unfold dn_X5_told
  refine z_rec ?_
  refine z_aload_n (j := 0) (q := 1) (by decide +kernel) rfl 0 rfl ?_
  refine z_iload_n (j := 1) (q := 2) (by decide +kernel) rfl 1 rfl ?_
  refine z_callVI (As := [.int v1]) (st := []) (q := 5) (ct_X5_isRunner g l v0 v1) zm_RX5_160 (rc_X5_isRunner v0 v1) rfl (by decide) (by decide) (Nat.le_of_ble_eq_true rfl) rfl (by decide +kernel) rfl fun x1 => ?_
  refine z_if_eq (off := 12) (t := 17) (q := 8) (by decide +kernel) (by decide) rfl ?_ ?_
  · refine zsub [] rfl ?_
    exact sj_X5_told_17 g l 
  · refine z_iload_n (j := 2) (q := 9) (by decide +kernel) rfl 2 rfl ?_
    refine z_iconst (n := 0) (v := 0) (q := 10) (by decide +kernel) rfl (by decide) ?_
    refine z_iconst (n := 4) (v := 4) (q := 11) (by decide +kernel) rfl (by decide) ?_
    refine z_callSI (As := [.int v2, .int 0, .int 4]) (st := []) (q := 14) (ct_X5_in g l v2 0 4) zm_RX5_86 rfl (by decide) (by decide) (Nat.le_of_ble_eq_true rfl) rfl (by decide +kernel) rfl fun x3 => ?_
    refine z_if_ne (off := 5) (t := 19) (q := 17) (by decide +kernel) (by decide) rfl ?_ ?_
    · refine z_aload_n (j := 0) (q := 20) (by decide +kernel) rfl 0 rfl ?_
      refine z_iconst (n := 0) (v := 0) (q := 21) (by decide +kernel) rfl (by decide) ?_
      refine z_callVU (As := [.int 0]) (st := []) (q := 24) (ct_X5_look g l v0 0) zm_RX5_153 (rc_X5_look v0 0) rfl (by decide) (by decide) (Nat.le_of_ble_eq_true rfl) rfl (by decide +kernel) rfl fun x5 => ?_
      refine z_aload_n (j := 0) (q := 25) (by decide +kernel) rfl 0 rfl ?_
      refine z_aload_n (j := 0) (q := 26) (by decide +kernel) rfl 0 rfl ?_
      refine z_iload_n (j := 1) (q := 27) (by decide +kernel) rfl 1 rfl ?_
      refine z_iload_n (j := 2) (q := 28) (by decide +kernel) rfl 2 rfl ?_
      refine z_callVI (As := [.int v1, .int v2]) (st := [.ref v0]) (q := 31) (ct_X5_raceTells g l v0 v1 v2) zm_RX5_234 (rc_X5_raceTells v0 v1 v2) rfl (by decide) (by decide) (Nat.le_of_ble_eq_true rfl) rfl (by decide +kernel) rfl fun x7 => ?_
      refine z_iconst (n := 1) (v := 1) (q := 32) (by decide +kernel) rfl (by decide) ?_
      refine z_callVI (As := [.int x7, .int 1]) (st := []) (q := 35) (ct_X5_tells g l v0 x7 1) zm_RX5_108 (rc_X5_tells v0 x7 1) rfl (by decide) (by decide) (Nat.le_of_ble_eq_true rfl) rfl (by decide +kernel) rfl fun x9 => ?_
      exact z_iret (by decide +kernel)
    · refine zsub [] rfl ?_
      exact sj_X5_told_17 g l 
theorem rc_X5_told (v0 : Nat) (v1 : Int32) (v2 : Int32) : ∀ h x, dn_X5_told v0 v1 v2 h = some x → ∃ fs, zgO 5 v0 h = some fs := fun h x hd => by
  obtain ⟨fs, e, -⟩ := Option.bind_eq_some_iff.mp hd
  exact ⟨fs, e⟩
