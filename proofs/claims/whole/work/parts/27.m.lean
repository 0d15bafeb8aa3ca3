def jn_X5_row_13 : zAH → Option (Int32 × zAH) := fun h => some ((-1), h)
theorem sj_X5_row_13 (g : zG) (l : Launch) : zSm g l cX5_row 4 RX5 "row" (some .int) 2 42 zrI 13 [] [] (jn_X5_row_13) := by
  unfold jn_X5_row_13
  refine z_iconst (n := (-1)) (v := (-1)) (q := 14) (by decide +kernel) rfl (by decide) ?_
  exact z_iret (by decide +kernel)
def jn_X5_row_58 (v2 : Int32) : zAH → Option (Int32 × zAH) := fun h => some (v2, h)
theorem sj_X5_row_58 (g : zG) (l : Launch) (v2 : Int32) : zSm g l cX5_row 4 RX5 "row" (some .int) 2 42 zrI 58 [(2, .int v2)] [] (jn_X5_row_58 v2) := by
  unfold jn_X5_row_58
  refine z_iload_n (j := 2) (q := 59) (by decide +kernel) rfl 0 rfl ?_
  exact z_iret (by decide +kernel)
def lb_X5_row_34 (v0 : Nat) (v1 : Int32) (v2 : Int32) (rec : (Int32) → zAH → Option (Int32 × zAH)) (s : Int32) : zAH → Option (Int32 × zAH) := fun h => if s < 60 then (zgA 5 6 v0 h).bind fun x1 => (zaS 0 x1 ((60 * v1) + s) 0 h).bind fun h2 => rec (s + 1) h2 else jn_X5_row_58 v2 h
def lp_X5_row_34 (v0 : Nat) (v1 : Int32) (v2 : Int32) (s : Int32) : zAH → Option (Int32 × zAH) := zlp (lb_X5_row_34 v0 v1 v2) 2000 s
theorem sl_X5_row_34 (g : zG) (l : Launch) (v0 : Nat) (v1 : Int32) (v2 : Int32) (s : Int32) : zSm g l cX5_row 4 RX5 "row" (some .int) 2 42 zrI 34 [(0, .ref v0), (1, .int v1), (2, .int v2), (3, .int s)] [] (lp_X5_row_34 v0 v1 v2 s) := by
  unfold lp_X5_row_34
  refine z_loop (lvf := fun s => [(0, .ref v0), (1, .int v1), (2, .int v2), (3, .int s)]) (fun rec hrec s => ?_) 2000 s
  unfold lb_X5_row_34
  refine z_iload_n (j := 3) (q := 35) (by decide +kernel) rfl 3 rfl ?_
  refine z_bipush (n := 60) (v := 60) (q := 37) (by decide +kernel) rfl (by decide) ?_
  refine z_icmp_ge (off := 21) (t := 58) (q := 40) (by decide +kernel) (by decide) rfl ?_ ?_
  · refine zsub [2] rfl ?_
    exact sj_X5_row_58 g l v2
  · refine z_aload_n (j := 0) (q := 41) (by decide +kernel) rfl 0 rfl ?_
    refine z_getA (q := 44) zf_RX5_16 (by decide +kernel) rfl fun x1 => ?_
    refine z_bipush (n := 60) (v := 60) (q := 46) (by decide +kernel) rfl (by decide) ?_
    refine z_iload_n (j := 1) (q := 47) (by decide +kernel) rfl 1 rfl ?_
    refine z_imul (q := 48) (by decide +kernel) rfl ?_
    refine z_iload_n (j := 3) (q := 49) (by decide +kernel) rfl 3 rfl ?_
    refine z_iadd (q := 50) (by decide +kernel) rfl ?_
    refine z_iconst (n := 0) (v := 0) (q := 51) (by decide +kernel) rfl (by decide) ?_
    refine z_iast (q := 52) (Or.inl ⟨rfl, rfl, rfl⟩) (by decide +kernel) rfl ?_
    refine z_iinc (j := 3) (n := 1) (v := 1) (q := 55) (by decide +kernel) rfl 3 rfl (by decide) (by decide) rfl ?_
    refine z_goto (off := (-21)) (t := 34) (by decide +kernel) (by decide) ?_
    refine zsub [1, 2, 3, 0] rfl ?_
    exact hrec (s + 1)
def dn_X5_row (v0 : Nat) (v1 : Int32) (v2 : Int32) : zAH → Option (Int32 × zAH) := fun h => (zgO 5 v0 h).bind fun _ => zbd (dn_X5_isRow v1 h) fun x1 h2 => if x1 = 0 then jn_X5_row_13 h2 else if 60 < v2 then jn_X5_row_13 h2 else if v2 < 0 then zbd (dn_X5_meets v0 5 h2) fun x5 h6 => some (x5, h6) else (zgA 5 5 v0 h2).bind fun x3 => (zaS 0 x3 v1 v2 h2).bind fun h4 => lp_X5_row_34 v0 v1 v2 0 h4
theorem ct_X5_row (g : zG) (l : Launch) (v0 : Nat) (v1 : Int32) (v2 : Int32) : zCt g l yX5_row cX5_row 4 (some .int) 2 42 zrI [.ref v0, .int v1, .int v2] (dn_X5_row v0 v1 v2) := by
  refine zCt_of (lv := [(0, .ref v0), (1, .int v1), (2, .int v2)]) (by decide +kernel) (Nat.le_of_ble_eq_true rfl) rfl ?_
  show zSm g l cX5_row 4 RX5 "row" (some .int) 2 42 zrI 0 [(0, .ref v0), (1, .int v1), (2, .int v2)] [] (dn_X5_row v0 v1 v2)
  unfold dn_X5_row
  refine z_rec ?_
  refine z_iload_n (j := 1) (q := 1) (by decide +kernel) rfl 1 rfl ?_
  refine z_callSI (As := [.int v1]) (st := []) (q := 4) (ct_X5_isRow g l v1) zm_RX5_96 rfl (by decide) (by decide) (Nat.le_of_ble_eq_true rfl) rfl (by decide +kernel) rfl fun x1 => ?_
  refine z_if_eq (off := 9) (t := 13) (q := 7) (by decide +kernel) (by decide) rfl ?_ ?_
  · refine zsub [] rfl ?_
    exact sj_X5_row_13 g l 
  · refine z_iload_n (j := 2) (q := 8) (by decide +kernel) rfl 2 rfl ?_
    refine z_bipush (n := 60) (v := 60) (q := 10) (by decide +kernel) rfl (by decide) ?_
    refine z_icmp_le (off := 5) (t := 15) (q := 13) (by decide +kernel) (by decide) rfl ?_ ?_
    · refine z_iload_n (j := 2) (q := 16) (by decide +kernel) rfl 2 rfl ?_
      refine z_if_ge (off := 9) (t := 25) (q := 19) (by decide +kernel) (by decide) rfl ?_ ?_
      · refine z_aload_n (j := 0) (q := 26) (by decide +kernel) rfl 0 rfl ?_
        refine z_getA (q := 29) zf_RX5_13 (by decide +kernel) rfl fun x3 => ?_
        refine z_iload_n (j := 1) (q := 30) (by decide +kernel) rfl 1 rfl ?_
        refine z_iload_n (j := 2) (q := 31) (by decide +kernel) rfl 2 rfl ?_
        refine z_iast (q := 32) (Or.inl ⟨rfl, rfl, rfl⟩) (by decide +kernel) rfl ?_
        refine z_iconst (n := 0) (v := 0) (q := 33) (by decide +kernel) rfl (by decide) ?_
        refine z_istore_n (j := 3) (q := 34) (by decide +kernel) rfl (by decide) rfl ?_
        refine zsub [1, 2, 3, 0] rfl ?_
        exact sl_X5_row_34 g l v0 v1 v2 0
      · refine z_aload_n (j := 0) (q := 20) (by decide +kernel) rfl 0 rfl ?_
        refine z_iconst (n := 5) (v := 5) (q := 21) (by decide +kernel) rfl (by decide) ?_
        refine z_callVI (As := [.int 5]) (st := []) (q := 24) (ct_X5_meets g l v0 5) zm_RX5_100 (rc_X5_meets v0 5) rfl (by decide) (by decide) (Nat.le_of_ble_eq_true rfl) rfl (by decide +kernel) rfl fun x5 => ?_
        exact z_iret (by decide +kernel)
    · refine zsub [] rfl ?_
      exact sj_X5_row_13 g l 
theorem rc_X5_row (v0 : Nat) (v1 : Int32) (v2 : Int32) : ∀ h x, dn_X5_row v0 v1 v2 h = some x → ∃ fs, zgO 5 v0 h = some fs := fun h x hd => by
  obtain ⟨fs, e, -⟩ := Option.bind_eq_some_iff.mp hd
  exact ⟨fs, e⟩
def dn_X5_lay (v0 : Nat) (v1 : Int32) (v2 : Int32) (v3 : Int32) : zAH → Option (Int32 × zAH) := fun h => (zgO 5 v0 h).bind fun _ => zbd (dn_X5_isRow v1 h) fun x1 h2 => if x1 = 0 then some ((-1), h2) else (zgA 5 5 v0 h2).bind fun x3 => (zaI 0 x3 v1 h2).bind fun x4 => if x4 < 0 then zbd (dn_X5_meets v0 1 h2) fun x17 h18 => some (x17, h18) else (zgA 5 5 v0 h2).bind fun x5 => (zaI 0 x5 v1 h2).bind fun x6 => zbd (dn_X5_in v2 0 (x6 - 1) h2) fun x7 h8 => if x7 = 0 then zbd (dn_X5_meets v0 2 h8) fun x15 h16 => some (x15, h16) else zbd (dn_X5_rowAt v0 v1 v2 h8) fun x9 h10 => (zgA 5 6 v0 h10).bind fun x11 => (zaS 0 x11 ((60 * v1) + v2) v3 h10).bind fun h12 => zbd (dn_X5_tells v0 x9 1 h12) fun x13 h14 => some (x13, h14)
theorem ct_X5_lay (g : zG) (l : Launch) (v0 : Nat) (v1 : Int32) (v2 : Int32) (v3 : Int32) : zCt g l yX5_lay cX5_lay 5 (some .int) 2 42 zrI [.ref v0, .int v1, .int v2, .int v3] (dn_X5_lay v0 v1 v2 v3) := by
  refine zCt_of (lv := [(0, .ref v0), (1, .int v1), (2, .int v2), (3, .int v3)]) (by decide +kernel) (Nat.le_of_ble_eq_true rfl) rfl ?_
  show zSm g l cX5_lay 5 RX5 "lay" (some .int) 2 42 zrI 0 [(0, .ref v0), (1, .int v1), (2, .int v2), (3, .int v3)] [] (dn_X5_lay v0 v1 v2 v3)
  unfold dn_X5_lay
  refine z_rec ?_
  refine z_iload_n (j := 1) (q := 1) (by decide +kernel) rfl 1 rfl ?_
  refine z_callSI (As := [.int v1]) (st := []) (q := 4) (ct_X5_isRow g l v1) zm_RX5_96 rfl (by decide) (by decide) (Nat.le_of_ble_eq_true rfl) rfl (by decide +kernel) rfl fun x1 => ?_
  refine z_if_ne (off := 5) (t := 9) (q := 7) (by decide +kernel) (by decide) rfl ?_ ?_
  · refine z_aload_n (j := 0) (q := 10) (by decide +kernel) rfl 0 rfl ?_
    refine z_getA (q := 13) zf_RX5_13 (by decide +kernel) rfl fun x3 => ?_
    refine z_iload_n (j := 1) (q := 14) (by decide +kernel) rfl 1 rfl ?_
    refine z_iald (q := 15) (Or.inl ⟨rfl, rfl⟩) (by decide +kernel) rfl fun x4 => ?_
    refine z_if_ge (off := 9) (t := 24) (q := 18) (by decide +kernel) (by decide) rfl ?_ ?_
    · refine z_iload_n (j := 2) (q := 25) (by decide +kernel) rfl 2 rfl ?_
      refine z_iconst (n := 0) (v := 0) (q := 26) (by decide +kernel) rfl (by decide) ?_
      refine z_aload_n (j := 0) (q := 27) (by decide +kernel) rfl 0 rfl ?_
      refine z_getA (q := 30) zf_RX5_13 (by decide +kernel) rfl fun x5 => ?_
      refine z_iload_n (j := 1) (q := 31) (by decide +kernel) rfl 1 rfl ?_
      refine z_iald (q := 32) (Or.inl ⟨rfl, rfl⟩) (by decide +kernel) rfl fun x6 => ?_
      refine z_iconst (n := 1) (v := 1) (q := 33) (by decide +kernel) rfl (by decide) ?_
      refine z_isub (q := 34) (by decide +kernel) rfl ?_
      refine z_callSI (As := [.int v2, .int 0, .int (x6 - 1)]) (st := []) (q := 37) (ct_X5_in g l v2 0 (x6 - 1)) zm_RX5_86 rfl (by decide) (by decide) (Nat.le_of_ble_eq_true rfl) rfl (by decide +kernel) rfl fun x7 => ?_
      refine z_if_ne (off := 9) (t := 46) (q := 40) (by decide +kernel) (by decide) rfl ?_ ?_
      · refine z_aload_n (j := 0) (q := 47) (by decide +kernel) rfl 0 rfl ?_
        refine z_iload_n (j := 1) (q := 48) (by decide +kernel) rfl 1 rfl ?_
        refine z_iload_n (j := 2) (q := 49) (by decide +kernel) rfl 2 rfl ?_
        refine z_callVI (As := [.int v1, .int v2]) (st := []) (q := 52) (ct_X5_rowAt g l v0 v1 v2) zm_RX5_104 (rc_X5_rowAt v0 v1 v2) rfl (by decide) (by decide) (Nat.le_of_ble_eq_true rfl) rfl (by decide +kernel) rfl fun x9 => ?_
        refine z_istore (j := 4) (q := 54) (by decide +kernel) rfl (by decide) rfl ?_
        refine z_aload_n (j := 0) (q := 55) (by decide +kernel) rfl 1 rfl ?_
        refine z_getA (q := 58) zf_RX5_16 (by decide +kernel) rfl fun x11 => ?_
        refine z_bipush (n := 60) (v := 60) (q := 60) (by decide +kernel) rfl (by decide) ?_
        refine z_iload_n (j := 1) (q := 61) (by decide +kernel) rfl 2 rfl ?_
        refine z_imul (q := 62) (by decide +kernel) rfl ?_
        refine z_iload_n (j := 2) (q := 63) (by decide +kernel) rfl 3 rfl ?_
        refine z_iadd (q := 64) (by decide +kernel) rfl ?_
        refine z_iload_n (j := 3) (q := 65) (by decide +kernel) rfl 4 rfl ?_
        refine z_iast (q := 66) (Or.inl ⟨rfl, rfl, rfl⟩) (by decide +kernel) rfl ?_
        refine z_aload_n (j := 0) (q := 67) (by decide +kernel) rfl 1 rfl ?_
        refine z_iload (j := 4) (q := 69) (by decide +kernel) rfl 0 rfl ?_
        refine z_iconst (n := 1) (v := 1) (q := 70) (by decide +kernel) rfl (by decide) ?_
        refine z_callVI (As := [.int x9, .int 1]) (st := []) (q := 73) (ct_X5_tells g l v0 x9 1) zm_RX5_108 (rc_X5_tells v0 x9 1) rfl (by decide) (by decide) (Nat.le_of_ble_eq_true rfl) rfl (by decide +kernel) rfl fun x13 => ?_
        exact z_iret (by decide +kernel)
      · refine z_aload_n (j := 0) (q := 41) (by decide +kernel) rfl 0 rfl ?_
        refine z_iconst (n := 2) (v := 2) (q := 42) (by decide +kernel) rfl (by decide) ?_
        refine z_callVI (As := [.int 2]) (st := []) (q := 45) (ct_X5_meets g l v0 2) zm_RX5_100 (rc_X5_meets v0 2) rfl (by decide) (by decide) (Nat.le_of_ble_eq_true rfl) rfl (by decide +kernel) rfl fun x15 => ?_
        exact z_iret (by decide +kernel)
    · refine z_aload_n (j := 0) (q := 19) (by decide +kernel) rfl 0 rfl ?_
      refine z_iconst (n := 1) (v := 1) (q := 20) (by decide +kernel) rfl (by decide) ?_
      refine z_callVI (As := [.int 1]) (st := []) (q := 23) (ct_X5_meets g l v0 1) zm_RX5_100 (rc_X5_meets v0 1) rfl (by decide) (by decide) (Nat.le_of_ble_eq_true rfl) rfl (by decide +kernel) rfl fun x17 => ?_
      exact z_iret (by decide +kernel)
  · refine z_iconst (n := (-1)) (v := (-1)) (q := 8) (by decide +kernel) rfl (by decide) ?_
    exact z_iret (by decide +kernel)
theorem rc_X5_lay (v0 : Nat) (v1 : Int32) (v2 : Int32) (v3 : Int32) : ∀ h x, dn_X5_lay v0 v1 v2 v3 h = some x → ∃ fs, zgO 5 v0 h = some fs := fun h x hd => by
  obtain ⟨fs, e, -⟩ := Option.bind_eq_some_iff.mp hd
  exact ⟨fs, e⟩
def jn_X5_at_59 (w0 : Int32) : zAH → Option (Int32 × zAH) := fun h => some (w0, h)
theorem sj_X5_at_59 (g : zG) (l : Launch) (w0 : Int32) : zSm g l cX5_at 3 RX5 "at" (some .int) 2 42 zrI 59 [] [.int w0] (jn_X5_at_59 w0) := by
  unfold jn_X5_at_59
  exact z_iret (by decide +kernel)
def dn_X5_at (v0 : Nat) (v1 : Int32) (v2 : Int32) : zAH → Option (Int32 × zAH) := fun h => (zgO 5 v0 h).bind fun _ => zbd (dn_X5_isRow v1 h) fun x1 h2 => if x1 = 0 then some ((-1), h2) else (zgA 5 5 v0 h2).bind fun x3 => (zaI 0 x3 v1 h2).bind fun x4 => if x4 < 0 then zbd (dn_X5_meets v0 1 h2) fun x15 h16 => some (x15, h16) else (zgA 5 5 v0 h2).bind fun x5 => (zaI 0 x5 v1 h2).bind fun x6 => zbd (dn_X5_in v2 0 (x6 - 1) h2) fun x7 h8 => if x7 = 0 then zbd (dn_X5_meets v0 2 h8) fun x9 h10 => jn_X5_at_59 x9 h10 else zbd (dn_X5_rowAt v0 v1 v2 h8) fun x11 h12 => zbd (dn_X5_tells v0 x11 1 h12) fun x13 h14 => jn_X5_at_59 x13 h14
theorem ct_X5_at (g : zG) (l : Launch) (v0 : Nat) (v1 : Int32) (v2 : Int32) : zCt g l yX5_at cX5_at 3 (some .int) 2 42 zrI [.ref v0, .int v1, .int v2] (dn_X5_at v0 v1 v2) := by
  refine zCt_of (lv := [(0, .ref v0), (1, .int v1), (2, .int v2)]) (by decide +kernel) (Nat.le_of_ble_eq_true rfl) rfl ?_
  show zSm g l cX5_at 3 RX5 "at" (some .int) 2 42 zrI 0 [(0, .ref v0), (1, .int v1), (2, .int v2)] [] (dn_X5_at v0 v1 v2)
  unfold dn_X5_at
  refine z_rec ?_
  refine z_iload_n (j := 1) (q := 1) (by decide +kernel) rfl 1 rfl ?_
  refine z_callSI (As := [.int v1]) (st := []) (q := 4) (ct_X5_isRow g l v1) zm_RX5_96 rfl (by decide) (by decide) (Nat.le_of_ble_eq_true rfl) rfl (by decide +kernel) rfl fun x1 => ?_
  refine z_if_ne (off := 5) (t := 9) (q := 7) (by decide +kernel) (by decide) rfl ?_ ?_
  · refine z_aload_n (j := 0) (q := 10) (by decide +kernel) rfl 0 rfl ?_
    refine z_getA (q := 13) zf_RX5_13 (by decide +kernel) rfl fun x3 => ?_
    refine z_iload_n (j := 1) (q := 14) (by decide +kernel) rfl 1 rfl ?_
    refine z_iald (q := 15) (Or.inl ⟨rfl, rfl⟩) (by decide +kernel) rfl fun x4 => ?_
    refine z_if_ge (off := 9) (t := 24) (q := 18) (by decide +kernel) (by decide) rfl ?_ ?_
    · refine z_iload_n (j := 2) (q := 25) (by decide +kernel) rfl 2 rfl ?_
      refine z_iconst (n := 0) (v := 0) (q := 26) (by decide +kernel) rfl (by decide) ?_
      refine z_aload_n (j := 0) (q := 27) (by decide +kernel) rfl 0 rfl ?_
      refine z_getA (q := 30) zf_RX5_13 (by decide +kernel) rfl fun x5 => ?_
      refine z_iload_n (j := 1) (q := 31) (by decide +kernel) rfl 1 rfl ?_
      refine z_iald (q := 32) (Or.inl ⟨rfl, rfl⟩) (by decide +kernel) rfl fun x6 => ?_
      refine z_iconst (n := 1) (v := 1) (q := 33) (by decide +kernel) rfl (by decide) ?_
      refine z_isub (q := 34) (by decide +kernel) rfl ?_
      refine z_callSI (As := [.int v2, .int 0, .int (x6 - 1)]) (st := []) (q := 37) (ct_X5_in g l v2 0 (x6 - 1)) zm_RX5_86 rfl (by decide) (by decide) (Nat.le_of_ble_eq_true rfl) rfl (by decide +kernel) rfl fun x7 => ?_
      refine z_if_eq (off := 17) (t := 54) (q := 40) (by decide +kernel) (by decide) rfl ?_ ?_
      · refine z_aload_n (j := 0) (q := 55) (by decide +kernel) rfl 0 rfl ?_
        refine z_iconst (n := 2) (v := 2) (q := 56) (by decide +kernel) rfl (by decide) ?_
        refine z_callVI (As := [.int 2]) (st := []) (q := 59) (ct_X5_meets g l v0 2) zm_RX5_100 (rc_X5_meets v0 2) rfl (by decide) (by decide) (Nat.le_of_ble_eq_true rfl) rfl (by decide +kernel) rfl fun x9 => ?_
        refine zsub [] rfl ?_
        exact sj_X5_at_59 g l x9
      · refine z_aload_n (j := 0) (q := 41) (by decide +kernel) rfl 0 rfl ?_
        refine z_aload_n (j := 0) (q := 42) (by decide +kernel) rfl 0 rfl ?_
        refine z_iload_n (j := 1) (q := 43) (by decide +kernel) rfl 1 rfl ?_
        refine z_iload_n (j := 2) (q := 44) (by decide +kernel) rfl 2 rfl ?_
        refine z_callVI (As := [.int v1, .int v2]) (st := [.ref v0]) (q := 47) (ct_X5_rowAt g l v0 v1 v2) zm_RX5_104 (rc_X5_rowAt v0 v1 v2) rfl (by decide) (by decide) (Nat.le_of_ble_eq_true rfl) rfl (by decide +kernel) rfl fun x11 => ?_
        refine z_iconst (n := 1) (v := 1) (q := 48) (by decide +kernel) rfl (by decide) ?_
        refine z_callVI (As := [.int x11, .int 1]) (st := []) (q := 51) (ct_X5_tells g l v0 x11 1) zm_RX5_108 (rc_X5_tells v0 x11 1) rfl (by decide) (by decide) (Nat.le_of_ble_eq_true rfl) rfl (by decide +kernel) rfl fun x13 => ?_
        refine z_goto (off := 8) (t := 59) (by decide +kernel) (by decide) ?_
        refine zsub [] rfl ?_
        exact sj_X5_at_59 g l x13
    · refine z_aload_n (j := 0) (q := 19) (by decide +kernel) rfl 0 rfl ?_
      refine z_iconst (n := 1) (v := 1) (q := 20) (by decide +kernel) rfl (by decide) ?_
      refine z_callVI (As := [.int 1]) (st := []) (q := 23) (ct_X5_meets g l v0 1) zm_RX5_100 (rc_X5_meets v0 1) rfl (by decide) (by decide) (Nat.le_of_ble_eq_true rfl) rfl (by decide +kernel) rfl fun x15 => ?_
      exact z_iret (by decide +kernel)
  · refine z_iconst (n := (-1)) (v := (-1)) (q := 8) (by decide +kernel) rfl (by decide) ?_
    exact z_iret (by decide +kernel)
theorem rc_X5_at (v0 : Nat) (v1 : Int32) (v2 : Int32) : ∀ h x, dn_X5_at v0 v1 v2 h = some x → ∃ fs, zgO 5 v0 h = some fs := fun h x hd => by
  obtain ⟨fs, e, -⟩ := Option.bind_eq_some_iff.mp hd
  exact ⟨fs, e⟩
def dn_X5_tear (v0 : Nat) (v1 : Int32) : zAH → Option (Int32 × zAH) := fun h => (zgO 5 v0 h).bind fun _ => zbd (dn_X5_isRow v1 h) fun x1 h2 => if x1 = 0 then some ((-1), h2) else (zgA 5 5 v0 h2).bind fun x3 => (zaI 0 x3 v1 h2).bind fun x4 => if x4 < 0 then zbd (dn_X5_meets v0 1 h2) fun x7 h8 => some (x7, h8) else (zgA 5 5 v0 h2).bind fun x5 => (zaS 0 x5 v1 ((-1)) h2).bind fun h6 => some (1, h6)
theorem ct_X5_tear (g : zG) (l : Launch) (v0 : Nat) (v1 : Int32) : zCt g l yX5_tear cX5_tear 2 (some .int) 2 42 zrI [.ref v0, .int v1] (dn_X5_tear v0 v1) := by
  refine zCt_of (lv := [(0, .ref v0), (1, .int v1)]) (by decide +kernel) (Nat.le_of_ble_eq_true rfl) rfl ?_
  show zSm g l cX5_tear 2 RX5 "tear" (some .int) 2 42 zrI 0 [(0, .ref v0), (1, .int v1)] [] (dn_X5_tear v0 v1)
  unfold dn_X5_tear
  refine z_rec ?_
  refine z_iload_n (j := 1) (q := 1) (by decide +kernel) rfl 1 rfl ?_
  refine z_callSI (As := [.int v1]) (st := []) (q := 4) (ct_X5_isRow g l v1) zm_RX5_96 rfl (by decide) (by decide) (Nat.le_of_ble_eq_true rfl) rfl (by decide +kernel) rfl fun x1 => ?_
  refine z_if_ne (off := 5) (t := 9) (q := 7) (by decide +kernel) (by decide) rfl ?_ ?_
  · refine z_aload_n (j := 0) (q := 10) (by decide +kernel) rfl 0 rfl ?_
    refine z_getA (q := 13) zf_RX5_13 (by decide +kernel) rfl fun x3 => ?_
    refine z_iload_n (j := 1) (q := 14) (by decide +kernel) rfl 1 rfl ?_
    refine z_iald (q := 15) (Or.inl ⟨rfl, rfl⟩) (by decide +kernel) rfl fun x4 => ?_
    refine z_if_ge (off := 9) (t := 24) (q := 18) (by decide +kernel) (by decide) rfl ?_ ?_
    · refine z_aload_n (j := 0) (q := 25) (by decide +kernel) rfl 0 rfl ?_
      refine z_getA (q := 28) zf_RX5_13 (by decide +kernel) rfl fun x5 => ?_
      refine z_iload_n (j := 1) (q := 29) (by decide +kernel) rfl 1 rfl ?_
      refine z_iconst (n := (-1)) (v := (-1)) (q := 30) (by decide +kernel) rfl (by decide) ?_
      refine z_iast (q := 31) (Or.inl ⟨rfl, rfl, rfl⟩) (by decide +kernel) rfl ?_
      refine z_iconst (n := 1) (v := 1) (q := 32) (by decide +kernel) rfl (by decide) ?_
      exact z_iret (by decide +kernel)
    · refine z_aload_n (j := 0) (q := 19) (by decide +kernel) rfl 0 rfl ?_
      refine z_iconst (n := 1) (v := 1) (q := 20) (by decide +kernel) rfl (by decide) ?_
      refine z_callVI (As := [.int 1]) (st := []) (q := 23) (ct_X5_meets g l v0 1) zm_RX5_100 (rc_X5_meets v0 1) rfl (by decide) (by decide) (Nat.le_of_ble_eq_true rfl) rfl (by decide +kernel) rfl fun x7 => ?_
      exact z_iret (by decide +kernel)
  · refine z_iconst (n := (-1)) (v := (-1)) (q := 8) (by decide +kernel) rfl (by decide) ?_
    exact z_iret (by decide +kernel)
theorem rc_X5_tear (v0 : Nat) (v1 : Int32) : ∀ h x, dn_X5_tear v0 v1 h = some x → ∃ fs, zgO 5 v0 h = some fs := fun h x hd => by
  obtain ⟨fs, e, -⟩ := Option.bind_eq_some_iff.mp hd
  exact ⟨fs, e⟩
def jn_X5_copy_14 : zAH → Option (Int32 × zAH) := fun h => some ((-1), h)
theorem sj_X5_copy_14 (g : zG) (l : Launch) : zSm g l cX5_copy 7 RX5 "copy" (some .int) 2 42 zrI 14 [] [] (jn_X5_copy_14) := by
  unfold jn_X5_copy_14
  refine z_iconst (n := (-1)) (v := (-1)) (q := 15) (by decide +kernel) rfl (by decide) ?_
  exact z_iret (by decide +kernel)
def jn_X5_copy_45 (v0 : Nat) : zAH → Option (Int32 × zAH) := fun h => zbd (dn_X5_meets v0 1 h) fun x1 h2 => some (x1, h2)
theorem sj_X5_copy_45 (g : zG) (l : Launch) (v0 : Nat) : zSm g l cX5_copy 7 RX5 "copy" (some .int) 2 42 zrI 45 [(0, .ref v0)] [] (jn_X5_copy_45 v0) := by
  unfold jn_X5_copy_45
  refine z_aload_n (j := 0) (q := 46) (by decide +kernel) rfl 0 rfl ?_
  refine z_iconst (n := 1) (v := 1) (q := 47) (by decide +kernel) rfl (by decide) ?_
  refine z_callVI (As := [.int 1]) (st := []) (q := 50) (ct_X5_meets g l v0 1) zm_RX5_100 (rc_X5_meets v0 1) rfl (by decide) (by decide) (Nat.le_of_ble_eq_true rfl) rfl (by decide +kernel) rfl fun x1 => ?_
  exact z_iret (by decide +kernel)
def jn_X5_copy_95 (v0 : Nat) : zAH → Option (Int32 × zAH) := fun h => zbd (dn_X5_meets v0 2 h) fun x1 h2 => some (x1, h2)
theorem sj_X5_copy_95 (g : zG) (l : Launch) (v0 : Nat) : zSm g l cX5_copy 7 RX5 "copy" (some .int) 2 42 zrI 95 [(0, .ref v0)] [] (jn_X5_copy_95 v0) := by
  unfold jn_X5_copy_95
  refine z_aload_n (j := 0) (q := 96) (by decide +kernel) rfl 0 rfl ?_
  refine z_iconst (n := 2) (v := 2) (q := 97) (by decide +kernel) rfl (by decide) ?_
  refine z_callVI (As := [.int 2]) (st := []) (q := 100) (ct_X5_meets g l v0 2) zm_RX5_100 (rc_X5_meets v0 2) rfl (by decide) (by decide) (Nat.le_of_ble_eq_true rfl) rfl (by decide +kernel) rfl fun x1 => ?_
  exact z_iret (by decide +kernel)
def jn_X5_copy_171 : zAH → Option (Int32 × zAH) := fun h => some (1, h)
theorem sj_X5_copy_171 (g : zG) (l : Launch) : zSm g l cX5_copy 7 RX5 "copy" (some .int) 2 42 zrI 171 [] [] (jn_X5_copy_171) := by
  unfold jn_X5_copy_171
  refine z_iconst (n := 1) (v := 1) (q := 172) (by decide +kernel) rfl (by decide) ?_
  exact z_iret (by decide +kernel)
def lb_X5_copy_136 (v0 : Nat) (v3 : Int32) (v4 : Int32) (v5 : Int32) (rec : (Int32) → zAH → Option (Int32 × zAH)) (s : Int32) : zAH → Option (Int32 × zAH) := fun h => if s < v5 then (zgA 5 6 v0 h).bind fun x1 => (zgA 5 7 v0 h).bind fun x2 => (zaI 0 x2 s h).bind fun x3 => (zaS 0 x1 (((60 * v3) + v4) + s) x3 h).bind fun h4 => rec (s + 1) h4 else jn_X5_copy_171 h
def lp_X5_copy_136 (v0 : Nat) (v3 : Int32) (v4 : Int32) (v5 : Int32) (s : Int32) : zAH → Option (Int32 × zAH) := zlp (lb_X5_copy_136 v0 v3 v4 v5) 2000 s
theorem sl_X5_copy_136 (g : zG) (l : Launch) (v0 : Nat) (v3 : Int32) (v4 : Int32) (v5 : Int32) (s : Int32) : zSm g l cX5_copy 7 RX5 "copy" (some .int) 2 42 zrI 136 [(0, .ref v0), (3, .int v3), (4, .int v4), (5, .int v5), (6, .int s)] [] (lp_X5_copy_136 v0 v3 v4 v5 s) := by
  unfold lp_X5_copy_136
  refine z_loop (lvf := fun s => [(0, .ref v0), (3, .int v3), (4, .int v4), (5, .int v5), (6, .int s)]) (fun rec hrec s => ?_) 2000 s
  unfold lb_X5_copy_136
  refine z_iload (j := 6) (q := 138) (by decide +kernel) rfl 4 rfl ?_
  refine z_iload (j := 5) (q := 140) (by decide +kernel) rfl 3 rfl ?_
  refine z_icmp_ge (off := 31) (t := 171) (q := 143) (by decide +kernel) (by decide) rfl ?_ ?_
  · refine zsub [] rfl ?_
    exact sj_X5_copy_171 g l 
  · refine z_aload_n (j := 0) (q := 144) (by decide +kernel) rfl 0 rfl ?_
    refine z_getA (q := 147) zf_RX5_16 (by decide +kernel) rfl fun x1 => ?_
    refine z_bipush (n := 60) (v := 60) (q := 149) (by decide +kernel) rfl (by decide) ?_
    refine z_iload_n (j := 3) (q := 150) (by decide +kernel) rfl 1 rfl ?_
    refine z_imul (q := 151) (by decide +kernel) rfl ?_
    refine z_iload (j := 4) (q := 153) (by decide +kernel) rfl 2 rfl ?_
    refine z_iadd (q := 154) (by decide +kernel) rfl ?_
    refine z_iload (j := 6) (q := 156) (by decide +kernel) rfl 4 rfl ?_
    refine z_iadd (q := 157) (by decide +kernel) rfl ?_
    refine z_aload_n (j := 0) (q := 158) (by decide +kernel) rfl 0 rfl ?_
    refine z_getA (q := 161) zf_RX5_19 (by decide +kernel) rfl fun x2 => ?_
    refine z_iload (j := 6) (q := 163) (by decide +kernel) rfl 4 rfl ?_
    refine z_iald (q := 164) (Or.inl ⟨rfl, rfl⟩) (by decide +kernel) rfl fun x3 => ?_
    refine z_iast (q := 165) (Or.inl ⟨rfl, rfl, rfl⟩) (by decide +kernel) rfl ?_
    refine z_iinc (j := 6) (n := 1) (v := 1) (q := 168) (by decide +kernel) rfl 4 rfl (by decide) (by decide) rfl ?_
    refine z_goto (off := (-32)) (t := 136) (by decide +kernel) (by decide) ?_
    refine zsub [1, 2, 3, 4, 0] rfl ?_
    exact hrec (s + 1)
def jn_X5_copy_133 (v0 : Nat) (v3 : Int32) (v4 : Int32) (v5 : Int32) : zAH → Option (Int32 × zAH) := fun h => lp_X5_copy_136 v0 v3 v4 v5 0 h
theorem sj_X5_copy_133 (g : zG) (l : Launch) (v0 : Nat) (v3 : Int32) (v4 : Int32) (v5 : Int32) : zSm g l cX5_copy 7 RX5 "copy" (some .int) 2 42 zrI 133 [(0, .ref v0), (3, .int v3), (4, .int v4), (5, .int v5)] [] (jn_X5_copy_133 v0 v3 v4 v5) := by
  unfold jn_X5_copy_133
  refine z_iconst (n := 0) (v := 0) (q := 134) (by decide +kernel) rfl (by decide) ?_
  refine z_istore (j := 6) (q := 136) (by decide +kernel) rfl (by decide) rfl ?_
  refine zsub [1, 2, 3, 4, 0] rfl ?_
  exact sl_X5_copy_136 g l v0 v3 v4 v5 0
def lb_X5_copy_104 (v0 : Nat) (v1 : Int32) (v2 : Int32) (v3 : Int32) (v4 : Int32) (v5 : Int32) (rec : (Int32) → zAH → Option (Int32 × zAH)) (s : Int32) : zAH → Option (Int32 × zAH) := fun h => if s < v5 then (zgA 5 7 v0 h).bind fun x1 => zbd (dn_X5_rowAt v0 v1 (v2 + s) h) fun x2 h3 => (zaS 0 x1 s x2 h3).bind fun h4 => rec (s + 1) h4 else jn_X5_copy_133 v0 v3 v4 v5 h
def lp_X5_copy_104 (v0 : Nat) (v1 : Int32) (v2 : Int32) (v3 : Int32) (v4 : Int32) (v5 : Int32) (s : Int32) : zAH → Option (Int32 × zAH) := zlp (lb_X5_copy_104 v0 v1 v2 v3 v4 v5) 2000 s
theorem sl_X5_copy_104 (g : zG) (l : Launch) (v0 : Nat) (v1 : Int32) (v2 : Int32) (v3 : Int32) (v4 : Int32) (v5 : Int32) (s : Int32) : zSm g l cX5_copy 7 RX5 "copy" (some .int) 2 42 zrI 104 [(0, .ref v0), (1, .int v1), (2, .int v2), (3, .int v3), (4, .int v4), (5, .int v5), (6, .int s)] [] (lp_X5_copy_104 v0 v1 v2 v3 v4 v5 s) := by
  unfold lp_X5_copy_104
  refine z_loop (lvf := fun s => [(0, .ref v0), (1, .int v1), (2, .int v2), (3, .int v3), (4, .int v4), (5, .int v5), (6, .int s)]) (fun rec hrec s => ?_) 2000 s
  unfold lb_X5_copy_104
  refine z_iload (j := 6) (q := 106) (by decide +kernel) rfl 6 rfl ?_
  refine z_iload (j := 5) (q := 108) (by decide +kernel) rfl 5 rfl ?_
  refine z_icmp_ge (off := 25) (t := 133) (q := 111) (by decide +kernel) (by decide) rfl ?_ ?_
  · refine zsub [0, 3, 4, 5] rfl ?_
    exact sj_X5_copy_133 g l v0 v3 v4 v5
  · refine z_aload_n (j := 0) (q := 112) (by decide +kernel) rfl 0 rfl ?_
    refine z_getA (q := 115) zf_RX5_19 (by decide +kernel) rfl fun x1 => ?_
    refine z_iload (j := 6) (q := 117) (by decide +kernel) rfl 6 rfl ?_
    refine z_aload_n (j := 0) (q := 118) (by decide +kernel) rfl 0 rfl ?_
    refine z_iload_n (j := 1) (q := 119) (by decide +kernel) rfl 1 rfl ?_
    refine z_iload_n (j := 2) (q := 120) (by decide +kernel) rfl 2 rfl ?_
    refine z_iload (j := 6) (q := 122) (by decide +kernel) rfl 6 rfl ?_
    refine z_iadd (q := 123) (by decide +kernel) rfl ?_
    refine z_callVI (As := [.int v1, .int (v2 + s)]) (st := [.int s, .ref x1]) (q := 126) (ct_X5_rowAt g l v0 v1 (v2 + s)) zm_RX5_104 (rc_X5_rowAt v0 v1 (v2 + s)) rfl (by decide) (by decide) (Nat.le_of_ble_eq_true rfl) rfl (by decide +kernel) rfl fun x2 => ?_
    refine z_iast (q := 127) (Or.inl ⟨rfl, rfl, rfl⟩) (by decide +kernel) rfl ?_
    refine z_iinc (j := 6) (n := 1) (v := 1) (q := 130) (by decide +kernel) rfl 6 rfl (by decide) (by decide) rfl ?_
    refine z_goto (off := (-26)) (t := 104) (by decide +kernel) (by decide) ?_
    refine zsub [1, 2, 3, 4, 5, 6, 0] rfl ?_
    exact hrec (s + 1)
def dn_X5_copy (v0 : Nat) (v1 : Int32) (v2 : Int32) (v3 : Int32) (v4 : Int32) (v5 : Int32) : zAH → Option (Int32 × zAH) := fun h => (zgO 5 v0 h).bind fun _ => zbd (dn_X5_isRow v1 h) fun x1 h2 => if x1 = 0 then jn_X5_copy_14 h2 else zbd (dn_X5_isRow v3 h2) fun x3 h4 => if x3 = 0 then jn_X5_copy_14 h4 else if v5 < 0 then zbd (dn_X5_meets v0 5 h4) fun x13 h14 => some (x13, h14) else (zgA 5 5 v0 h4).bind fun x5 => (zaI 0 x5 v1 h4).bind fun x6 => if x6 < 0 then jn_X5_copy_45 v0 h4 else (zgA 5 5 v0 h4).bind fun x7 => (zaI 0 x7 v3 h4).bind fun x8 => if x8 < 0 then jn_X5_copy_45 v0 h4 else if v2 < 0 then jn_X5_copy_95 v0 h4 else if v4 < 0 then jn_X5_copy_95 v0 h4 else (zgA 5 5 v0 h4).bind fun x9 => (zaI 0 x9 v1 h4).bind fun x10 => if 0 < (lg_cmp ((Int32.toInt64 v2) + (Int32.toInt64 v5)) (Int32.toInt64 x10)) then jn_X5_copy_95 v0 h4 else (zgA 5 5 v0 h4).bind fun x11 => (zaI 0 x11 v3 h4).bind fun x12 => if 0 < (lg_cmp ((Int32.toInt64 v4) + (Int32.toInt64 v5)) (Int32.toInt64 x12)) then jn_X5_copy_95 v0 h4 else lp_X5_copy_104 v0 v1 v2 v3 v4 v5 0 h4
theorem ct_X5_copy (g : zG) (l : Launch) (v0 : Nat) (v1 : Int32) (v2 : Int32) (v3 : Int32) (v4 : Int32) (v5 : Int32) : zCt g l yX5_copy cX5_copy 7 (some .int) 2 42 zrI [.ref v0, .int v1, .int v2, .int v3, .int v4, .int v5] (dn_X5_copy v0 v1 v2 v3 v4 v5) := by
  refine zCt_of (lv := [(0, .ref v0), (1, .int v1), (2, .int v2), (3, .int v3), (4, .int v4), (5, .int v5)]) (by decide +kernel) (Nat.le_of_ble_eq_true rfl) rfl ?_
  show zSm g l cX5_copy 7 RX5 "copy" (some .int) 2 42 zrI 0 [(0, .ref v0), (1, .int v1), (2, .int v2), (3, .int v3), (4, .int v4), (5, .int v5)] [] (dn_X5_copy v0 v1 v2 v3 v4 v5)
  unfold dn_X5_copy
  refine z_rec ?_
  refine z_iload_n (j := 1) (q := 1) (by decide +kernel) rfl 1 rfl ?_
  refine z_callSI (As := [.int v1]) (st := []) (q := 4) (ct_X5_isRow g l v1) zm_RX5_96 rfl (by decide) (by decide) (Nat.le_of_ble_eq_true rfl) rfl (by decide +kernel) rfl fun x1 => ?_
  refine z_if_eq (off := 10) (t := 14) (q := 7) (by decide +kernel) (by decide) rfl ?_ ?_
  · refine zsub [] rfl ?_
    exact sj_X5_copy_14 g l 
  · refine z_iload_n (j := 3) (q := 8) (by decide +kernel) rfl 3 rfl ?_
    refine z_callSI (As := [.int v3]) (st := []) (q := 11) (ct_X5_isRow g l v3) zm_RX5_96 rfl (by decide) (by decide) (Nat.le_of_ble_eq_true rfl) rfl (by decide +kernel) rfl fun x3 => ?_
    refine z_if_ne (off := 5) (t := 16) (q := 14) (by decide +kernel) (by decide) rfl ?_ ?_
    · refine z_iload (j := 5) (q := 18) (by decide +kernel) rfl 5 rfl ?_
      refine z_if_ge (off := 9) (t := 27) (q := 21) (by decide +kernel) (by decide) rfl ?_ ?_
      · refine z_aload_n (j := 0) (q := 28) (by decide +kernel) rfl 0 rfl ?_
        refine z_getA (q := 31) zf_RX5_13 (by decide +kernel) rfl fun x5 => ?_
        refine z_iload_n (j := 1) (q := 32) (by decide +kernel) rfl 1 rfl ?_
        refine z_iald (q := 33) (Or.inl ⟨rfl, rfl⟩) (by decide +kernel) rfl fun x6 => ?_
        refine z_if_lt (off := 12) (t := 45) (q := 36) (by decide +kernel) (by decide) rfl ?_ ?_
        · refine zsub [0] rfl ?_
          exact sj_X5_copy_45 g l v0
        · refine z_aload_n (j := 0) (q := 37) (by decide +kernel) rfl 0 rfl ?_
          refine z_getA (q := 40) zf_RX5_13 (by decide +kernel) rfl fun x7 => ?_
          refine z_iload_n (j := 3) (q := 41) (by decide +kernel) rfl 3 rfl ?_
          refine z_iald (q := 42) (Or.inl ⟨rfl, rfl⟩) (by decide +kernel) rfl fun x8 => ?_
          refine z_if_ge (off := 9) (t := 51) (q := 45) (by decide +kernel) (by decide) rfl ?_ ?_
          · refine z_iload_n (j := 2) (q := 52) (by decide +kernel) rfl 2 rfl ?_
            refine z_if_lt (off := 43) (t := 95) (q := 55) (by decide +kernel) (by decide) rfl ?_ ?_
            · refine zsub [0] rfl ?_
              exact sj_X5_copy_95 g l v0
            · refine z_iload (j := 4) (q := 57) (by decide +kernel) rfl 4 rfl ?_
              refine z_if_lt (off := 38) (t := 95) (q := 60) (by decide +kernel) (by decide) rfl ?_ ?_
              · refine zsub [0] rfl ?_
                exact sj_X5_copy_95 g l v0
              · refine z_iload_n (j := 2) (q := 61) (by decide +kernel) rfl 2 rfl ?_
                refine z_i2l (q := 62) (by decide +kernel) rfl ?_
                refine z_iload (j := 5) (q := 64) (by decide +kernel) rfl 5 rfl ?_
                refine z_i2l (q := 65) (by decide +kernel) rfl ?_
                refine z_ladd (q := 66) (by decide +kernel) rfl ?_
                refine z_aload_n (j := 0) (q := 67) (by decide +kernel) rfl 0 rfl ?_
                refine z_getA (q := 70) zf_RX5_13 (by decide +kernel) rfl fun x9 => ?_
                refine z_iload_n (j := 1) (q := 71) (by decide +kernel) rfl 1 rfl ?_
                refine z_iald (q := 72) (Or.inl ⟨rfl, rfl⟩) (by decide +kernel) rfl fun x10 => ?_
                refine z_i2l (q := 73) (by decide +kernel) rfl ?_
                refine z_lcmp (q := 74) (by decide +kernel) rfl ?_
                refine z_if_gt (off := 21) (t := 95) (q := 77) (by decide +kernel) (by decide) rfl ?_ ?_
                · refine zsub [0] rfl ?_
                  exact sj_X5_copy_95 g l v0
                · refine z_iload (j := 4) (q := 79) (by decide +kernel) rfl 4 rfl ?_
                  refine z_i2l (q := 80) (by decide +kernel) rfl ?_
                  refine z_iload (j := 5) (q := 82) (by decide +kernel) rfl 5 rfl ?_
                  refine z_i2l (q := 83) (by decide +kernel) rfl ?_
                  refine z_ladd (q := 84) (by decide +kernel) rfl ?_
                  refine z_aload_n (j := 0) (q := 85) (by decide +kernel) rfl 0 rfl ?_
                  refine z_getA (q := 88) zf_RX5_13 (by decide +kernel) rfl fun x11 => ?_
                  refine z_iload_n (j := 3) (q := 89) (by decide +kernel) rfl 3 rfl ?_
                  refine z_iald (q := 90) (Or.inl ⟨rfl, rfl⟩) (by decide +kernel) rfl fun x12 => ?_
                  refine z_i2l (q := 91) (by decide +kernel) rfl ?_
                  refine z_lcmp (q := 92) (by decide +kernel) rfl ?_
                  refine z_if_le (off := 9) (t := 101) (q := 95) (by decide +kernel) (by decide) rfl ?_ ?_
                  · refine z_iconst (n := 0) (v := 0) (q := 102) (by decide +kernel) rfl (by decide) ?_
                    refine z_istore (j := 6) (q := 104) (by decide +kernel) rfl (by decide) rfl ?_
                    refine zsub [1, 2, 3, 4, 5, 6, 0] rfl ?_
                    exact sl_X5_copy_104 g l v0 v1 v2 v3 v4 v5 0
                  · refine zsub [0] rfl ?_
                    exact sj_X5_copy_95 g l v0
          · refine zsub [0] rfl ?_
            exact sj_X5_copy_45 g l v0
      · refine z_aload_n (j := 0) (q := 22) (by decide +kernel) rfl 0 rfl ?_
        refine z_iconst (n := 5) (v := 5) (q := 23) (by decide +kernel) rfl (by decide) ?_
        refine z_callVI (As := [.int 5]) (st := []) (q := 26) (ct_X5_meets g l v0 5) zm_RX5_100 (rc_X5_meets v0 5) rfl (by decide) (by decide) (Nat.le_of_ble_eq_true rfl) rfl (by decide +kernel) rfl fun x13 => ?_
        exact z_iret (by decide +kernel)
    · refine zsub [] rfl ?_
      exact sj_X5_copy_14 g l 
theorem rc_X5_copy (v0 : Nat) (v1 : Int32) (v2 : Int32) (v3 : Int32) (v4 : Int32) (v5 : Int32) : ∀ h x, dn_X5_copy v0 v1 v2 v3 v4 v5 h = some x → ∃ fs, zgO 5 v0 h = some fs := fun h x hd => by
  obtain ⟨fs, e, -⟩ := Option.bind_eq_some_iff.mp hd
  exact ⟨fs, e⟩
def jn_X5_mean_72 (v0 : Nat) (v1 : Int32) (v2 : Int64) : zAH → Option (Int32 × zAH) := fun h => (zgA 5 5 v0 h).bind fun x1 => (zaI 0 x1 v1 h).bind fun x2 => if Int32.toInt64 x2 = 0 then none else zbd (dn_X5_tells v0 (Int64.toInt32 (v2 / (Int32.toInt64 x2))) 1 h) fun x3 h4 => some (x3, h4)
theorem sj_X5_mean_72 (g : zG) (l : Launch) (v0 : Nat) (v1 : Int32) (v2 : Int64) : zSm g l cX5_mean 5 RX5 "mean" (some .int) 2 42 zrI 72 [(0, .ref v0), (1, .int v1), (2, .long v2)] [] (jn_X5_mean_72 v0 v1 v2) := by
  unfold jn_X5_mean_72
  refine z_aload_n (j := 0) (q := 73) (by decide +kernel) rfl 0 rfl ?_
  refine z_lload_n (j := 2) (q := 74) (by decide +kernel) rfl 2 rfl ?_
  refine z_aload_n (j := 0) (q := 75) (by decide +kernel) rfl 0 rfl ?_
  refine z_getA (q := 78) zf_RX5_13 (by decide +kernel) rfl fun x1 => ?_
  refine z_iload_n (j := 1) (q := 79) (by decide +kernel) rfl 1 rfl ?_
  refine z_iald (q := 80) (Or.inl ⟨rfl, rfl⟩) (by decide +kernel) rfl fun x2 => ?_
  refine z_i2l (q := 81) (by decide +kernel) rfl ?_
  refine z_ldiv (q := 82) (by decide +kernel) rfl ?_
  refine z_l2i (q := 83) (by decide +kernel) rfl ?_
  refine z_iconst (n := 1) (v := 1) (q := 84) (by decide +kernel) rfl (by decide) ?_
  refine z_callVI (As := [.int (Int64.toInt32 (v2 / (Int32.toInt64 x2))), .int 1]) (st := []) (q := 87) (ct_X5_tells g l v0 (Int64.toInt32 (v2 / (Int32.toInt64 x2))) 1) zm_RX5_108 (rc_X5_tells v0 (Int64.toInt32 (v2 / (Int32.toInt64 x2))) 1) rfl (by decide) (by decide) (Nat.le_of_ble_eq_true rfl) rfl (by decide +kernel) rfl fun x3 => ?_
  exact z_iret (by decide +kernel)
def lb_X5_mean_44 (v0 : Nat) (v1 : Int32) (rec : (Int64 × Int32) → zAH → Option (Int32 × zAH)) (s : Int64 × Int32) : zAH → Option (Int32 × zAH) := fun h => (zgA 5 5 v0 h).bind fun x1 => (zaI 0 x1 v1 h).bind fun x2 => if s.2 < x2 then zbd (dn_X5_rowAt v0 v1 s.2 h) fun x3 h4 => rec (s.1 + (Int32.toInt64 x3), s.2 + 1) h4 else jn_X5_mean_72 v0 v1 s.1 h
def lp_X5_mean_44 (v0 : Nat) (v1 : Int32) (s : Int64 × Int32) : zAH → Option (Int32 × zAH) := zlp (lb_X5_mean_44 v0 v1) 2000 s
theorem sl_X5_mean_44 (g : zG) (l : Launch) (v0 : Nat) (v1 : Int32) (s : Int64 × Int32) : zSm g l cX5_mean 5 RX5 "mean" (some .int) 2 42 zrI 44 [(0, .ref v0), (1, .int v1), (2, .long s.1), (4, .int s.2)] [] (lp_X5_mean_44 v0 v1 s) := by
  unfold lp_X5_mean_44
  refine z_loop (lvf := fun s => [(0, .ref v0), (1, .int v1), (2, .long s.1), (4, .int s.2)]) (fun rec hrec s => ?_) 2000 s
  unfold lb_X5_mean_44
  refine z_iload (j := 4) (q := 46) (by decide +kernel) rfl 3 rfl ?_
  refine z_aload_n (j := 0) (q := 47) (by decide +kernel) rfl 0 rfl ?_
  refine z_getA (q := 50) zf_RX5_13 (by decide +kernel) rfl fun x1 => ?_
  refine z_iload_n (j := 1) (q := 51) (by decide +kernel) rfl 1 rfl ?_
  refine z_iald (q := 52) (Or.inl ⟨rfl, rfl⟩) (by decide +kernel) rfl fun x2 => ?_
  refine z_icmp_ge (off := 20) (t := 72) (q := 55) (by decide +kernel) (by decide) rfl ?_ ?_
  · refine zsub [0, 1, 2] rfl ?_
    exact sj_X5_mean_72 g l v0 v1 s.1
  · refine z_lload_n (j := 2) (q := 56) (by decide +kernel) rfl 2 rfl ?_
    refine z_aload_n (j := 0) (q := 57) (by decide +kernel) rfl 0 rfl ?_
    refine z_iload_n (j := 1) (q := 58) (by decide +kernel) rfl 1 rfl ?_
    refine z_iload (j := 4) (q := 60) (by decide +kernel) rfl 3 rfl ?_
    refine z_callVI (As := [.int v1, .int s.2]) (st := [.long s.1]) (q := 63) (ct_X5_rowAt g l v0 v1 s.2) zm_RX5_104 (rc_X5_rowAt v0 v1 s.2) rfl (by decide) (by decide) (Nat.le_of_ble_eq_true rfl) rfl (by decide +kernel) rfl fun x3 => ?_
    refine z_i2l (q := 64) (by decide +kernel) rfl ?_
    refine z_ladd (q := 65) (by decide +kernel) rfl ?_
    refine z_lstore_n (j := 2) (q := 66) (by decide +kernel) rfl (by decide) rfl ?_
    refine z_iinc (j := 4) (n := 1) (v := 1) (q := 69) (by decide +kernel) rfl 3 rfl (by decide) (by decide) rfl ?_
    refine z_goto (off := (-25)) (t := 44) (by decide +kernel) (by decide) ?_
    refine zsub [2, 3, 1, 0] rfl ?_
    exact hrec (s.1 + (Int32.toInt64 x3), s.2 + 1)
def dn_X5_mean (v0 : Nat) (v1 : Int32) : zAH → Option (Int32 × zAH) := fun h => (zgO 5 v0 h).bind fun _ => zbd (dn_X5_isRow v1 h) fun x1 h2 => if x1 = 0 then some ((-1), h2) else (zgA 5 5 v0 h2).bind fun x3 => (zaI 0 x3 v1 h2).bind fun x4 => if x4 < 0 then zbd (dn_X5_meets v0 1 h2) fun x9 h10 => some (x9, h10) else (zgA 5 5 v0 h2).bind fun x5 => (zaI 0 x5 v1 h2).bind fun x6 => if x6 = 0 then zbd (dn_X5_meets v0 4 h2) fun x7 h8 => some (x7, h8) else lp_X5_mean_44 v0 v1 (0, 0) h2
theorem ct_X5_mean (g : zG) (l : Launch) (v0 : Nat) (v1 : Int32) : zCt g l yX5_mean cX5_mean 5 (some .int) 2 42 zrI [.ref v0, .int v1] (dn_X5_mean v0 v1) := by
  refine zCt_of (lv := [(0, .ref v0), (1, .int v1)]) (by decide +kernel) (Nat.le_of_ble_eq_true rfl) rfl ?_
  show zSm g l cX5_mean 5 RX5 "mean" (some .int) 2 42 zrI 0 [(0, .ref v0), (1, .int v1)] [] (dn_X5_mean v0 v1)
  unfold dn_X5_mean
  refine z_rec ?_
  refine z_iload_n (j := 1) (q := 1) (by decide +kernel) rfl 1 rfl ?_
  refine z_callSI (As := [.int v1]) (st := []) (q := 4) (ct_X5_isRow g l v1) zm_RX5_96 rfl (by decide) (by decide) (Nat.le_of_ble_eq_true rfl) rfl (by decide +kernel) rfl fun x1 => ?_
  refine z_if_ne (off := 5) (t := 9) (q := 7) (by decide +kernel) (by decide) rfl ?_ ?_
  · refine z_aload_n (j := 0) (q := 10) (by decide +kernel) rfl 0 rfl ?_
    refine z_getA (q := 13) zf_RX5_13 (by decide +kernel) rfl fun x3 => ?_
    refine z_iload_n (j := 1) (q := 14) (by decide +kernel) rfl 1 rfl ?_
    refine z_iald (q := 15) (Or.inl ⟨rfl, rfl⟩) (by decide +kernel) rfl fun x4 => ?_
    refine z_if_ge (off := 9) (t := 24) (q := 18) (by decide +kernel) (by decide) rfl ?_ ?_
    · refine z_aload_n (j := 0) (q := 25) (by decide +kernel) rfl 0 rfl ?_
      refine z_getA (q := 28) zf_RX5_13 (by decide +kernel) rfl fun x5 => ?_
      refine z_iload_n (j := 1) (q := 29) (by decide +kernel) rfl 1 rfl ?_
      refine z_iald (q := 30) (Or.inl ⟨rfl, rfl⟩) (by decide +kernel) rfl fun x6 => ?_
      refine z_if_ne (off := 9) (t := 39) (q := 33) (by decide +kernel) (by decide) rfl ?_ ?_
      · refine z_lconst (n := 0) (v := 0) (q := 40) (by decide +kernel) rfl (by decide) ?_
        refine z_lstore_n (j := 2) (q := 41) (by decide +kernel) rfl (by decide) rfl ?_
        refine z_iconst (n := 0) (v := 0) (q := 42) (by decide +kernel) rfl (by decide) ?_
        refine z_istore (j := 4) (q := 44) (by decide +kernel) rfl (by decide) rfl ?_
        refine zsub [2, 3, 1, 0] rfl ?_
        exact sl_X5_mean_44 g l v0 v1 (0, 0)
      · refine z_aload_n (j := 0) (q := 34) (by decide +kernel) rfl 0 rfl ?_
        refine z_iconst (n := 4) (v := 4) (q := 35) (by decide +kernel) rfl (by decide) ?_
        refine z_callVI (As := [.int 4]) (st := []) (q := 38) (ct_X5_meets g l v0 4) zm_RX5_100 (rc_X5_meets v0 4) rfl (by decide) (by decide) (Nat.le_of_ble_eq_true rfl) rfl (by decide +kernel) rfl fun x7 => ?_
        exact z_iret (by decide +kernel)
    · refine z_aload_n (j := 0) (q := 19) (by decide +kernel) rfl 0 rfl ?_
      refine z_iconst (n := 1) (v := 1) (q := 20) (by decide +kernel) rfl (by decide) ?_
      refine z_callVI (As := [.int 1]) (st := []) (q := 23) (ct_X5_meets g l v0 1) zm_RX5_100 (rc_X5_meets v0 1) rfl (by decide) (by decide) (Nat.le_of_ble_eq_true rfl) rfl (by decide +kernel) rfl fun x9 => ?_
      exact z_iret (by decide +kernel)
  · refine z_iconst (n := (-1)) (v := (-1)) (q := 8) (by decide +kernel) rfl (by decide) ?_
    exact z_iret (by decide +kernel)
theorem rc_X5_mean (v0 : Nat) (v1 : Int32) : ∀ h x, dn_X5_mean v0 v1 h = some x → ∃ fs, zgO 5 v0 h = some fs := fun h x hd => by
  obtain ⟨fs, e, -⟩ := Option.bind_eq_some_iff.mp hd
  exact ⟨fs, e⟩
def dn_X5_isText (v0 : Int32) : zAH → Option (Int32 × zAH) := fun h => zbd (dn_X5_in v0 0 3 h) fun x1 h2 => if x1 = 0 ∨ x1 = 1 then some (x1, h2) else none
theorem ct_X5_isText (g : zG) (l : Launch) (v0 : Int32) : zCt g l yX5_isText cX5_isText 1 (some .boolean) 1 22 zrI [.int v0] (dn_X5_isText v0) := by
  refine zCt_of (lv := [(0, .int v0)]) (by decide +kernel) (Nat.le_of_ble_eq_true rfl) rfl ?_
  show zSm g l cX5_isText 1 RX5 "isText" (some .boolean) 1 22 zrI 0 [(0, .int v0)] [] (dn_X5_isText v0)
  unfold dn_X5_isText
  refine z_iload_n (j := 0) (q := 1) (by decide +kernel) rfl 0 rfl ?_
  refine z_iconst (n := 0) (v := 0) (q := 2) (by decide +kernel) rfl (by decide) ?_
  refine z_iconst (n := 3) (v := 3) (q := 3) (by decide +kernel) rfl (by decide) ?_
  refine z_callSI (As := [.int v0, .int 0, .int 3]) (st := []) (q := 6) (ct_X5_in g l v0 0 3) zm_RX5_86 rfl (by decide) (by decide) (Nat.le_of_ble_eq_true rfl) rfl (by decide +kernel) rfl fun x1 => ?_
  exact z_zret (by decide +kernel)
def jn_X5_text_13 : zAH → Option (Int32 × zAH) := fun h => some ((-1), h)
theorem sj_X5_text_13 (g : zG) (l : Launch) : zSm g l cX5_text 4 RX5 "text" (some .int) 2 42 zrI 13 [] [] (jn_X5_text_13) := by
  unfold jn_X5_text_13
  refine z_iconst (n := (-1)) (v := (-1)) (q := 14) (by decide +kernel) rfl (by decide) ?_
  exact z_iret (by decide +kernel)
def jn_X5_text_59 (v2 : Int32) : zAH → Option (Int32 × zAH) := fun h => some (v2, h)
theorem sj_X5_text_59 (g : zG) (l : Launch) (v2 : Int32) : zSm g l cX5_text 4 RX5 "text" (some .int) 2 42 zrI 59 [(2, .int v2)] [] (jn_X5_text_59 v2) := by
  unfold jn_X5_text_59
  refine z_iload_n (j := 2) (q := 60) (by decide +kernel) rfl 0 rfl ?_
  exact z_iret (by decide +kernel)
def lb_X5_text_34 (v0 : Nat) (v1 : Int32) (v2 : Int32) (rec : (Int32) → zAH → Option (Int32 × zAH)) (s : Int32) : zAH → Option (Int32 × zAH) := fun h => if s < 100 then (zgA 5 9 v0 h).bind fun x1 => (zaS 1 x1 ((100 * v1) + s) ((Int32.toInt8 32).toInt32) h).bind fun h2 => rec (s + 1) h2 else jn_X5_text_59 v2 h
def lp_X5_text_34 (v0 : Nat) (v1 : Int32) (v2 : Int32) (s : Int32) : zAH → Option (Int32 × zAH) := zlp (lb_X5_text_34 v0 v1 v2) 2000 s
theorem sl_X5_text_34 (g : zG) (l : Launch) (v0 : Nat) (v1 : Int32) (v2 : Int32) (s : Int32) : zSm g l cX5_text 4 RX5 "text" (some .int) 2 42 zrI 34 [(0, .ref v0), (1, .int v1), (2, .int v2), (3, .int s)] [] (lp_X5_text_34 v0 v1 v2 s) := by
  unfold lp_X5_text_34
  refine z_loop (lvf := fun s => [(0, .ref v0), (1, .int v1), (2, .int v2), (3, .int s)]) (fun rec hrec s => ?_) 2000 s
  unfold lb_X5_text_34
  refine z_iload_n (j := 3) (q := 35) (by decide +kernel) rfl 3 rfl ?_
  refine z_bipush (n := 100) (v := 100) (q := 37) (by decide +kernel) rfl (by decide) ?_
  refine z_icmp_ge (off := 22) (t := 59) (q := 40) (by decide +kernel) (by decide) rfl ?_ ?_
  · refine zsub [2] rfl ?_
    exact sj_X5_text_59 g l v2
  · refine z_aload_n (j := 0) (q := 41) (by decide +kernel) rfl 0 rfl ?_
    refine z_getA (q := 44) zf_RX5_25 (by decide +kernel) rfl fun x1 => ?_
    refine z_bipush (n := 100) (v := 100) (q := 46) (by decide +kernel) rfl (by decide) ?_
    refine z_iload_n (j := 1) (q := 47) (by decide +kernel) rfl 1 rfl ?_
    refine z_imul (q := 48) (by decide +kernel) rfl ?_
    refine z_iload_n (j := 3) (q := 49) (by decide +kernel) rfl 3 rfl ?_
    refine z_iadd (q := 50) (by decide +kernel) rfl ?_
    refine z_bipush (n := 32) (v := 32) (q := 52) (by decide +kernel) rfl (by decide) ?_
    refine z_iast (q := 53) (Or.inr (Or.inl ⟨rfl, rfl, rfl⟩)) (by decide +kernel) rfl ?_
    refine z_iinc (j := 3) (n := 1) (v := 1) (q := 56) (by decide +kernel) rfl 3 rfl (by decide) (by decide) rfl ?_
    refine z_goto (off := (-22)) (t := 34) (by decide +kernel) (by decide) ?_
    refine zsub [1, 2, 3, 0] rfl ?_
    exact hrec (s + 1)
def dn_X5_text (v0 : Nat) (v1 : Int32) (v2 : Int32) : zAH → Option (Int32 × zAH) := fun h => (zgO 5 v0 h).bind fun _ => zbd (dn_X5_isText v1 h) fun x1 h2 => if x1 = 0 then jn_X5_text_13 h2 else if 100 < v2 then jn_X5_text_13 h2 else if v2 < 0 then zbd (dn_X5_meets v0 5 h2) fun x5 h6 => some (x5, h6) else (zgA 5 8 v0 h2).bind fun x3 => (zaS 0 x3 v1 v2 h2).bind fun h4 => lp_X5_text_34 v0 v1 v2 0 h4
theorem ct_X5_text (g : zG) (l : Launch) (v0 : Nat) (v1 : Int32) (v2 : Int32) : zCt g l yX5_text cX5_text 4 (some .int) 2 42 zrI [.ref v0, .int v1, .int v2] (dn_X5_text v0 v1 v2) := by
  refine zCt_of (lv := [(0, .ref v0), (1, .int v1), (2, .int v2)]) (by decide +kernel) (Nat.le_of_ble_eq_true rfl) rfl ?_
  show zSm g l cX5_text 4 RX5 "text" (some .int) 2 42 zrI 0 [(0, .ref v0), (1, .int v1), (2, .int v2)] [] (dn_X5_text v0 v1 v2)
  unfold dn_X5_text
  refine z_rec ?_
  refine z_iload_n (j := 1) (q := 1) (by decide +kernel) rfl 1 rfl ?_
  refine z_callSI (As := [.int v1]) (st := []) (q := 4) (ct_X5_isText g l v1) zm_RX5_111 rfl (by decide) (by decide) (Nat.le_of_ble_eq_true rfl) rfl (by decide +kernel) rfl fun x1 => ?_
  refine z_if_eq (off := 9) (t := 13) (q := 7) (by decide +kernel) (by decide) rfl ?_ ?_
  · refine zsub [] rfl ?_
    exact sj_X5_text_13 g l 
  · refine z_iload_n (j := 2) (q := 8) (by decide +kernel) rfl 2 rfl ?_
    refine z_bipush (n := 100) (v := 100) (q := 10) (by decide +kernel) rfl (by decide) ?_
    refine z_icmp_le (off := 5) (t := 15) (q := 13) (by decide +kernel) (by decide) rfl ?_ ?_
    · refine z_iload_n (j := 2) (q := 16) (by decide +kernel) rfl 2 rfl ?_
      refine z_if_ge (off := 9) (t := 25) (q := 19) (by decide +kernel) (by decide) rfl ?_ ?_
      · refine z_aload_n (j := 0) (q := 26) (by decide +kernel) rfl 0 rfl ?_
        refine z_getA (q := 29) zf_RX5_22 (by decide +kernel) rfl fun x3 => ?_
        refine z_iload_n (j := 1) (q := 30) (by decide +kernel) rfl 1 rfl ?_
        refine z_iload_n (j := 2) (q := 31) (by decide +kernel) rfl 2 rfl ?_
        refine z_iast (q := 32) (Or.inl ⟨rfl, rfl, rfl⟩) (by decide +kernel) rfl ?_
        refine z_iconst (n := 0) (v := 0) (q := 33) (by decide +kernel) rfl (by decide) ?_
        refine z_istore_n (j := 3) (q := 34) (by decide +kernel) rfl (by decide) rfl ?_
        refine zsub [1, 2, 3, 0] rfl ?_
        exact sl_X5_text_34 g l v0 v1 v2 0
      · refine z_aload_n (j := 0) (q := 20) (by decide +kernel) rfl 0 rfl ?_
        refine z_iconst (n := 5) (v := 5) (q := 21) (by decide +kernel) rfl (by decide) ?_
        refine z_callVI (As := [.int 5]) (st := []) (q := 24) (ct_X5_meets g l v0 5) zm_RX5_100 (rc_X5_meets v0 5) rfl (by decide) (by decide) (Nat.le_of_ble_eq_true rfl) rfl (by decide +kernel) rfl fun x5 => ?_
        exact z_iret (by decide +kernel)
    · refine zsub [] rfl ?_
      exact sj_X5_text_13 g l 
theorem rc_X5_text (v0 : Nat) (v1 : Int32) (v2 : Int32) : ∀ h x, dn_X5_text v0 v1 v2 h = some x → ∃ fs, zgO 5 v0 h = some fs := fun h x hd => by
  obtain ⟨fs, e, -⟩ := Option.bind_eq_some_iff.mp hd
  exact ⟨fs, e⟩
def dn_X5_put (v0 : Nat) (v1 : Int32) (v2 : Int32) (v3 : Int32) : zAH → Option (Int32 × zAH) := fun h => (zgO 5 v0 h).bind fun _ => zbd (dn_X5_isText v1 h) fun x1 h2 => if x1 = 0 then some ((-1), h2) else (zgA 5 8 v0 h2).bind fun x3 => (zaI 0 x3 v1 h2).bind fun x4 => if x4 < 0 then zbd (dn_X5_meets v0 1 h2) fun x15 h16 => some (x15, h16) else (zgA 5 8 v0 h2).bind fun x5 => (zaI 0 x5 v1 h2).bind fun x6 => zbd (dn_X5_in v2 0 (x6 - 1) h2) fun x7 h8 => if x7 = 0 then zbd (dn_X5_meets v0 2 h8) fun x13 h14 => some (x13, h14) else (zgA 5 9 v0 h8).bind fun x9 => (zaI 1 x9 ((100 * v1) + v2) h8).bind fun x10 => (zgA 5 9 v0 h8).bind fun x11 => (zaS 1 x11 ((100 * v1) + v2) ((Int32.toInt8 ((Int32.toInt8 v3).toInt32)).toInt32) h8).bind fun h12 => some (1000 + x10, h12)
theorem ct_X5_put (g : zG) (l : Launch) (v0 : Nat) (v1 : Int32) (v2 : Int32) (v3 : Int32) : zCt g l yX5_put cX5_put 5 (some .int) 2 42 zrI [.ref v0, .int v1, .int v2, .int v3] (dn_X5_put v0 v1 v2 v3) := by
  refine zCt_of (lv := [(0, .ref v0), (1, .int v1), (2, .int v2), (3, .int v3)]) (by decide +kernel) (Nat.le_of_ble_eq_true rfl) rfl ?_
  show zSm g l cX5_put 5 RX5 "put" (some .int) 2 42 zrI 0 [(0, .ref v0), (1, .int v1), (2, .int v2), (3, .int v3)] [] (dn_X5_put v0 v1 v2 v3)
  unfold dn_X5_put
  refine z_rec ?_
  refine z_iload_n (j := 1) (q := 1) (by decide +kernel) rfl 1 rfl ?_
  refine z_callSI (As := [.int v1]) (st := []) (q := 4) (ct_X5_isText g l v1) zm_RX5_111 rfl (by decide) (by decide) (Nat.le_of_ble_eq_true rfl) rfl (by decide +kernel) rfl fun x1 => ?_
  refine z_if_ne (off := 5) (t := 9) (q := 7) (by decide +kernel) (by decide) rfl ?_ ?_
  · refine z_aload_n (j := 0) (q := 10) (by decide +kernel) rfl 0 rfl ?_
    refine z_getA (q := 13) zf_RX5_22 (by decide +kernel) rfl fun x3 => ?_
    refine z_iload_n (j := 1) (q := 14) (by decide +kernel) rfl 1 rfl ?_
    refine z_iald (q := 15) (Or.inl ⟨rfl, rfl⟩) (by decide +kernel) rfl fun x4 => ?_
    refine z_if_ge (off := 9) (t := 24) (q := 18) (by decide +kernel) (by decide) rfl ?_ ?_
    · refine z_iload_n (j := 2) (q := 25) (by decide +kernel) rfl 2 rfl ?_
      refine z_iconst (n := 0) (v := 0) (q := 26) (by decide +kernel) rfl (by decide) ?_
      refine z_aload_n (j := 0) (q := 27) (by decide +kernel) rfl 0 rfl ?_
      refine z_getA (q := 30) zf_RX5_22 (by decide +kernel) rfl fun x5 => ?_
      refine z_iload_n (j := 1) (q := 31) (by decide +kernel) rfl 1 rfl ?_
      refine z_iald (q := 32) (Or.inl ⟨rfl, rfl⟩) (by decide +kernel) rfl fun x6 => ?_
      refine z_iconst (n := 1) (v := 1) (q := 33) (by decide +kernel) rfl (by decide) ?_
      refine z_isub (q := 34) (by decide +kernel) rfl ?_
      refine z_callSI (As := [.int v2, .int 0, .int (x6 - 1)]) (st := []) (q := 37) (ct_X5_in g l v2 0 (x6 - 1)) zm_RX5_86 rfl (by decide) (by decide) (Nat.le_of_ble_eq_true rfl) rfl (by decide +kernel) rfl fun x7 => ?_
      refine z_if_ne (off := 9) (t := 46) (q := 40) (by decide +kernel) (by decide) rfl ?_ ?_
      · refine z_aload_n (j := 0) (q := 47) (by decide +kernel) rfl 0 rfl ?_
        refine z_getA (q := 50) zf_RX5_25 (by decide +kernel) rfl fun x9 => ?_
        refine z_bipush (n := 100) (v := 100) (q := 52) (by decide +kernel) rfl (by decide) ?_
        refine z_iload_n (j := 1) (q := 53) (by decide +kernel) rfl 1 rfl ?_
        refine z_imul (q := 54) (by decide +kernel) rfl ?_
        refine z_iload_n (j := 2) (q := 55) (by decide +kernel) rfl 2 rfl ?_
        refine z_iadd (q := 56) (by decide +kernel) rfl ?_
        refine z_iald (q := 57) (Or.inr (Or.inl ⟨rfl, rfl⟩)) (by decide +kernel) rfl fun x10 => ?_
        refine z_istore (j := 4) (q := 59) (by decide +kernel) rfl (by decide) rfl ?_
        refine z_aload_n (j := 0) (q := 60) (by decide +kernel) rfl 1 rfl ?_
        refine z_getA (q := 63) zf_RX5_25 (by decide +kernel) rfl fun x11 => ?_
        refine z_bipush (n := 100) (v := 100) (q := 65) (by decide +kernel) rfl (by decide) ?_
        refine z_iload_n (j := 1) (q := 66) (by decide +kernel) rfl 2 rfl ?_
        refine z_imul (q := 67) (by decide +kernel) rfl ?_
        refine z_iload_n (j := 2) (q := 68) (by decide +kernel) rfl 3 rfl ?_
        refine z_iadd (q := 69) (by decide +kernel) rfl ?_
        refine z_iload_n (j := 3) (q := 70) (by decide +kernel) rfl 4 rfl ?_
        refine z_i2b (q := 71) (by decide +kernel) rfl ?_
        refine z_iast (q := 72) (Or.inr (Or.inl ⟨rfl, rfl, rfl⟩)) (by decide +kernel) rfl ?_
        refine z_sipush (n := 1000) (v := 1000) (q := 75) (by decide +kernel) rfl (by decide) ?_
        refine z_iload (j := 4) (q := 77) (by decide +kernel) rfl 0 rfl ?_
        refine z_iadd (q := 78) (by decide +kernel) rfl ?_
        exact z_iret (by decide +kernel)
      · refine z_aload_n (j := 0) (q := 41) (by decide +kernel) rfl 0 rfl ?_
        refine z_iconst (n := 2) (v := 2) (q := 42) (by decide +kernel) rfl (by decide) ?_
        refine z_callVI (As := [.int 2]) (st := []) (q := 45) (ct_X5_meets g l v0 2) zm_RX5_100 (rc_X5_meets v0 2) rfl (by decide) (by decide) (Nat.le_of_ble_eq_true rfl) rfl (by decide +kernel) rfl fun x13 => ?_
        exact z_iret (by decide +kernel)
    · refine z_aload_n (j := 0) (q := 19) (by decide +kernel) rfl 0 rfl ?_
      refine z_iconst (n := 1) (v := 1) (q := 20) (by decide +kernel) rfl (by decide) ?_
      refine z_callVI (As := [.int 1]) (st := []) (q := 23) (ct_X5_meets g l v0 1) zm_RX5_100 (rc_X5_meets v0 1) rfl (by decide) (by decide) (Nat.le_of_ble_eq_true rfl) rfl (by decide +kernel) rfl fun x15 => ?_
      exact z_iret (by decide +kernel)
  · refine z_iconst (n := (-1)) (v := (-1)) (q := 8) (by decide +kernel) rfl (by decide) ?_
    exact z_iret (by decide +kernel)
theorem rc_X5_put (v0 : Nat) (v1 : Int32) (v2 : Int32) (v3 : Int32) : ∀ h x, dn_X5_put v0 v1 v2 v3 h = some x → ∃ fs, zgO 5 v0 h = some fs := fun h x hd => by
  obtain ⟨fs, e, -⟩ := Option.bind_eq_some_iff.mp hd
  exact ⟨fs, e⟩
def jn_X5_byteAt_25 (w0 : Int32) : zAH → Option (Int32 × zAH) := fun h => some (w0, h)
theorem sj_X5_byteAt_25 (g : zG) (l : Launch) (w0 : Int32) : zSm g l cX5_byteAt 3 RX5 "byteAt" (some .int) 0 0 zrI 25 [] [.int w0] (jn_X5_byteAt_25 w0) := by
  unfold jn_X5_byteAt_25
  exact z_iret (by decide +kernel)
def dn_X5_byteAt (v0 : Nat) (v1 : Int32) (v2 : Int32) : zAH → Option (Int32 × zAH) := fun h => (zgO 5 v0 h).bind fun _ => (zgA 5 8 v0 h).bind fun x1 => (zaI 0 x1 v1 h).bind fun x2 => if v2 < x2 then (zgA 5 9 v0 h).bind fun x3 => (zaI 1 x3 ((100 * v1) + v2) h).bind fun x4 => jn_X5_byteAt_25 x4 h else jn_X5_byteAt_25 0 h
theorem ct_X5_byteAt (g : zG) (l : Launch) (v0 : Nat) (v1 : Int32) (v2 : Int32) : zCt g l yX5_byteAt cX5_byteAt 3 (some .int) 0 0 zrI [.ref v0, .int v1, .int v2] (dn_X5_byteAt v0 v1 v2) := by
  refine zCt_of (lv := [(0, .ref v0), (1, .int v1), (2, .int v2)]) (by decide +kernel) (Nat.le_of_ble_eq_true rfl) rfl ?_
  show zSm g l cX5_byteAt 3 RX5 "byteAt" (some .int) 0 0 zrI 0 [(0, .ref v0), (1, .int v1), (2, .int v2)] [] (dn_X5_byteAt v0 v1 v2)
  unfold dn_X5_byteAt
  refine z_rec ?_
  refine z_iload_n (j := 2) (q := 1) (by decide +kernel) rfl 2 rfl ?_
  refine z_aload_n (j := 0) (q := 2) (by decide +kernel) rfl 0 rfl ?_
  refine z_getA (q := 5) zf_RX5_22 (by decide +kernel) rfl fun x1 => ?_
  refine z_iload_n (j := 1) (q := 6) (by decide +kernel) rfl 1 rfl ?_
  refine z_iald (q := 7) (Or.inl ⟨rfl, rfl⟩) (by decide +kernel) rfl fun x2 => ?_
  refine z_icmp_ge (off := 17) (t := 24) (q := 10) (by decide +kernel) (by decide) rfl ?_ ?_
  · refine z_iconst (n := 0) (v := 0) (q := 25) (by decide +kernel) rfl (by decide) ?_
    refine zsub [] rfl ?_
    exact sj_X5_byteAt_25 g l 0
  · refine z_aload_n (j := 0) (q := 11) (by decide +kernel) rfl 0 rfl ?_
    refine z_getA (q := 14) zf_RX5_25 (by decide +kernel) rfl fun x3 => ?_
    refine z_bipush (n := 100) (v := 100) (q := 16) (by decide +kernel) rfl (by decide) ?_
    refine z_iload_n (j := 1) (q := 17) (by decide +kernel) rfl 1 rfl ?_
    refine z_imul (q := 18) (by decide +kernel) rfl ?_
    refine z_iload_n (j := 2) (q := 19) (by decide +kernel) rfl 2 rfl ?_
    refine z_iadd (q := 20) (by decide +kernel) rfl ?_
    refine z_iald (q := 21) (Or.inr (Or.inl ⟨rfl, rfl⟩)) (by decide +kernel) rfl fun x4 => ?_
    refine z_goto (off := 4) (t := 25) (by decide +kernel) (by decide) ?_
    refine zsub [] rfl ?_
    exact sj_X5_byteAt_25 g l x4
theorem rc_X5_byteAt (v0 : Nat) (v1 : Int32) (v2 : Int32) : ∀ h x, dn_X5_byteAt v0 v1 v2 h = some x → ∃ fs, zgO 5 v0 h = some fs := fun h x hd => by
  obtain ⟨fs, e, -⟩ := Option.bind_eq_some_iff.mp hd
  exact ⟨fs, e⟩
def jn_X5_slopeOf_42 (w0 : Int32) : zAH → Option (Int32 × zAH) := fun h => some (w0, h)
theorem sj_X5_slopeOf_42 (g : zG) (l : Launch) (w0 : Int32) : zSm g l cX5_slopeOf 1 RX5 "slopeOf" (some .int) 0 0 zrI 42 [] [.int w0] (jn_X5_slopeOf_42 w0) := by
  unfold jn_X5_slopeOf_42
  exact z_iret (by decide +kernel)
def dn_X5_slopeOf (v0 : Int32) : zAH → Option (Int32 × zAH) := fun h => if v0 = 61 then jn_X5_slopeOf_42 0 h else if v0 = 47 then jn_X5_slopeOf_42 1 h else if v0 = 94 then jn_X5_slopeOf_42 2 h else if v0 = 92 then jn_X5_slopeOf_42 ((-1)) h else jn_X5_slopeOf_42 ((-9)) h
theorem ct_X5_slopeOf (g : zG) (l : Launch) (v0 : Int32) : zCt g l yX5_slopeOf cX5_slopeOf 1 (some .int) 0 0 zrI [.int v0] (dn_X5_slopeOf v0) := by
  refine zCt_of (lv := [(0, .int v0)]) (by decide +kernel) (Nat.le_of_ble_eq_true rfl) rfl ?_
  show zSm g l cX5_slopeOf 1 RX5 "slopeOf" (some .int) 0 0 zrI 0 [(0, .int v0)] [] (dn_X5_slopeOf v0)
  unfold dn_X5_slopeOf
  refine z_iload_n (j := 0) (q := 1) (by decide +kernel) rfl 0 rfl ?_
  refine z_bipush (n := 61) (v := 61) (q := 3) (by decide +kernel) rfl (by decide) ?_
  refine z_icmp_ne (off := 7) (t := 10) (q := 6) (by decide +kernel) (by decide) rfl ?_ ?_
  · refine z_iload_n (j := 0) (q := 11) (by decide +kernel) rfl 0 rfl ?_
    refine z_bipush (n := 47) (v := 47) (q := 13) (by decide +kernel) rfl (by decide) ?_
    refine z_icmp_ne (off := 7) (t := 20) (q := 16) (by decide +kernel) (by decide) rfl ?_ ?_
    · refine z_iload_n (j := 0) (q := 21) (by decide +kernel) rfl 0 rfl ?_
      refine z_bipush (n := 94) (v := 94) (q := 23) (by decide +kernel) rfl (by decide) ?_
      refine z_icmp_ne (off := 7) (t := 30) (q := 26) (by decide +kernel) (by decide) rfl ?_ ?_
      · refine z_iload_n (j := 0) (q := 31) (by decide +kernel) rfl 0 rfl ?_
        refine z_bipush (n := 92) (v := 92) (q := 33) (by decide +kernel) rfl (by decide) ?_
        refine z_icmp_ne (off := 7) (t := 40) (q := 36) (by decide +kernel) (by decide) rfl ?_ ?_
        · refine z_bipush (n := (-9)) (v := (-9)) (q := 42) (by decide +kernel) rfl (by decide) ?_
          refine zsub [] rfl ?_
          exact sj_X5_slopeOf_42 g l ((-9))
        · refine z_iconst (n := (-1)) (v := (-1)) (q := 37) (by decide +kernel) rfl (by decide) ?_
          refine z_goto (off := 5) (t := 42) (by decide +kernel) (by decide) ?_
          refine zsub [] rfl ?_
          exact sj_X5_slopeOf_42 g l ((-1))
      · refine z_iconst (n := 2) (v := 2) (q := 27) (by decide +kernel) rfl (by decide) ?_
        refine z_goto (off := 15) (t := 42) (by decide +kernel) (by decide) ?_
        refine zsub [] rfl ?_
        exact sj_X5_slopeOf_42 g l 2
    · refine z_iconst (n := 1) (v := 1) (q := 17) (by decide +kernel) rfl (by decide) ?_
      refine z_goto (off := 25) (t := 42) (by decide +kernel) (by decide) ?_
      refine zsub [] rfl ?_
      exact sj_X5_slopeOf_42 g l 1
  · refine z_iconst (n := 0) (v := 0) (q := 7) (by decide +kernel) rfl (by decide) ?_
    refine z_goto (off := 35) (t := 42) (by decide +kernel) (by decide) ?_
    refine zsub [] rfl ?_
    exact sj_X5_slopeOf_42 g l 0
def jn_X5_paceOf_42 (w0 : Int32) : zAH → Option (Int32 × zAH) := fun h => some (w0, h)
theorem sj_X5_paceOf_42 (g : zG) (l : Launch) (w0 : Int32) : zSm g l cX5_paceOf 1 RX5 "paceOf" (some .int) 0 0 zrI 42 [] [.int w0] (jn_X5_paceOf_42 w0) := by
  unfold jn_X5_paceOf_42
  exact z_iret (by decide +kernel)
def dn_X5_paceOf (v0 : Int32) : zAH → Option (Int32 × zAH) := fun h => if v0 = 122 then jn_X5_paceOf_42 0 h else if v0 = 119 then jn_X5_paceOf_42 1 h else if v0 = 114 then jn_X5_paceOf_42 2 h else if v0 = 115 then jn_X5_paceOf_42 3 h else jn_X5_paceOf_42 ((-9)) h
theorem ct_X5_paceOf (g : zG) (l : Launch) (v0 : Int32) : zCt g l yX5_paceOf cX5_paceOf 1 (some .int) 0 0 zrI [.int v0] (dn_X5_paceOf v0) := by
  refine zCt_of (lv := [(0, .int v0)]) (by decide +kernel) (Nat.le_of_ble_eq_true rfl) rfl ?_
  show zSm g l cX5_paceOf 1 RX5 "paceOf" (some .int) 0 0 zrI 0 [(0, .int v0)] [] (dn_X5_paceOf v0)
  unfold dn_X5_paceOf
  refine z_iload_n (j := 0) (q := 1) (by decide +kernel) rfl 0 rfl ?_
  refine z_bipush (n := 122) (v := 122) (q := 3) (by decide +kernel) rfl (by decide) ?_
  refine z_icmp_ne (off := 7) (t := 10) (q := 6) (by decide +kernel) (by decide) rfl ?_ ?_
  · refine z_iload_n (j := 0) (q := 11) (by decide +kernel) rfl 0 rfl ?_
    refine z_bipush (n := 119) (v := 119) (q := 13) (by decide +kernel) rfl (by decide) ?_
    refine z_icmp_ne (off := 7) (t := 20) (q := 16) (by decide +kernel) (by decide) rfl ?_ ?_
    · refine z_iload_n (j := 0) (q := 21) (by decide +kernel) rfl 0 rfl ?_
      refine z_bipush (n := 114) (v := 114) (q := 23) (by decide +kernel) rfl (by decide) ?_
      refine z_icmp_ne (off := 7) (t := 30) (q := 26) (by decide +kernel) (by decide) rfl ?_ ?_
      · refine z_iload_n (j := 0) (q := 31) (by decide +kernel) rfl 0 rfl ?_
        refine z_bipush (n := 115) (v := 115) (q := 33) (by decide +kernel) rfl (by decide) ?_
        refine z_icmp_ne (off := 7) (t := 40) (q := 36) (by decide +kernel) (by decide) rfl ?_ ?_
        · refine z_bipush (n := (-9)) (v := (-9)) (q := 42) (by decide +kernel) rfl (by decide) ?_
          refine zsub [] rfl ?_
          exact sj_X5_paceOf_42 g l ((-9))
        · refine z_iconst (n := 3) (v := 3) (q := 37) (by decide +kernel) rfl (by decide) ?_
          refine z_goto (off := 5) (t := 42) (by decide +kernel) (by decide) ?_
          refine zsub [] rfl ?_
          exact sj_X5_paceOf_42 g l 3
      · refine z_iconst (n := 2) (v := 2) (q := 27) (by decide +kernel) rfl (by decide) ?_
        refine z_goto (off := 15) (t := 42) (by decide +kernel) (by decide) ?_
        refine zsub [] rfl ?_
        exact sj_X5_paceOf_42 g l 2
    · refine z_iconst (n := 1) (v := 1) (q := 17) (by decide +kernel) rfl (by decide) ?_
      refine z_goto (off := 25) (t := 42) (by decide +kernel) (by decide) ?_
      refine zsub [] rfl ?_
      exact sj_X5_paceOf_42 g l 1
  · refine z_iconst (n := 0) (v := 0) (q := 7) (by decide +kernel) rfl (by decide) ?_
    refine z_goto (off := 35) (t := 42) (by decide +kernel) (by decide) ?_
    refine zsub [] rfl ?_
    exact sj_X5_paceOf_42 g l 0
def jn_X5_kindOf_88 : zAH → Option (Int32 × zAH) := fun h => some ((-9), h)
theorem sj_X5_kindOf_88 (g : zG) (l : Launch) : zSm g l cX5_kindOf 1 RX5 "kindOf" (some .int) 0 0 zrI 88 [] [] (jn_X5_kindOf_88) := by
  unfold jn_X5_kindOf_88
  refine z_bipush (n := (-9)) (v := (-9)) (q := 90) (by decide +kernel) rfl (by decide) ?_
  exact z_iret (by decide +kernel)
def dn_X5_kindOf (v0 : Int32) : zAH → Option (Int32 × zAH) := fun h => if v0 = 103 then some (1, h) else if v0 = 104 then some (3, h) else if v0 = 109 then some (4, h) else if v0 = 110 then some (0, h) else if v0 = 111 then some (2, h) else if v0 = 117 then some (5, h) else jn_X5_kindOf_88 h
theorem ct_X5_kindOf (g : zG) (l : Launch) (v0 : Int32) : zCt g l yX5_kindOf cX5_kindOf 1 (some .int) 0 0 zrI [.int v0] (dn_X5_kindOf v0) := by
  refine zCt_of (lv := [(0, .int v0)]) (by decide +kernel) (Nat.le_of_ble_eq_true rfl) rfl ?_
  show zSm g l cX5_kindOf 1 RX5 "kindOf" (some .int) 0 0 zrI 0 [(0, .int v0)] [] (dn_X5_kindOf v0)
  unfold dn_X5_kindOf
  refine z_iload_n (j := 0) (q := 1) (by decide +kernel) rfl 0 rfl ?_
  refine z_case (fun c1 => ?_) (fun c1 => ?_)
  · refine z_tabIn (v := 103) (off := 77) (t := 78) c1 (by decide +kernel : decode cX5_kindOf 1 = .ok (.tableswitch 87 103 117 #[77, 81, 87, 87, 87, 87, 83, 75, 79, 87, 87, 87, 87, 87, 85], 75)) (by decide) (by decide) (by decide) (by decide) ?_
    refine z_iconst (n := 1) (v := 1) (q := 79) (by decide +kernel) rfl (by decide) ?_
    exact z_iret (by decide +kernel)
  · skip
    refine z_case (fun c2 => ?_) (fun c2 => ?_)
    · refine z_tabIn (v := 104) (off := 81) (t := 82) c2 (by decide +kernel : decode cX5_kindOf 1 = .ok (.tableswitch 87 103 117 #[77, 81, 87, 87, 87, 87, 83, 75, 79, 87, 87, 87, 87, 87, 85], 75)) (by decide) (by decide) (by decide) (by decide) ?_
      refine z_iconst (n := 3) (v := 3) (q := 83) (by decide +kernel) rfl (by decide) ?_
      exact z_iret (by decide +kernel)
    · skip
      refine z_case (fun c3 => ?_) (fun c3 => ?_)
      · refine z_tabIn (v := 109) (off := 83) (t := 84) c3 (by decide +kernel : decode cX5_kindOf 1 = .ok (.tableswitch 87 103 117 #[77, 81, 87, 87, 87, 87, 83, 75, 79, 87, 87, 87, 87, 87, 85], 75)) (by decide) (by decide) (by decide) (by decide) ?_
        refine z_iconst (n := 4) (v := 4) (q := 85) (by decide +kernel) rfl (by decide) ?_
        exact z_iret (by decide +kernel)
      · skip
        refine z_case (fun c4 => ?_) (fun c4 => ?_)
        · refine z_tabIn (v := 110) (off := 75) (t := 76) c4 (by decide +kernel : decode cX5_kindOf 1 = .ok (.tableswitch 87 103 117 #[77, 81, 87, 87, 87, 87, 83, 75, 79, 87, 87, 87, 87, 87, 85], 75)) (by decide) (by decide) (by decide) (by decide) ?_
          refine z_iconst (n := 0) (v := 0) (q := 77) (by decide +kernel) rfl (by decide) ?_
          exact z_iret (by decide +kernel)
        · skip
          refine z_case (fun c5 => ?_) (fun c5 => ?_)
          · refine z_tabIn (v := 111) (off := 79) (t := 80) c5 (by decide +kernel : decode cX5_kindOf 1 = .ok (.tableswitch 87 103 117 #[77, 81, 87, 87, 87, 87, 83, 75, 79, 87, 87, 87, 87, 87, 85], 75)) (by decide) (by decide) (by decide) (by decide) ?_
            refine z_iconst (n := 2) (v := 2) (q := 81) (by decide +kernel) rfl (by decide) ?_
            exact z_iret (by decide +kernel)
          · skip
            refine z_case (fun c6 => ?_) (fun c6 => ?_)
            · refine z_tabIn (v := 117) (off := 85) (t := 86) c6 (by decide +kernel : decode cX5_kindOf 1 = .ok (.tableswitch 87 103 117 #[77, 81, 87, 87, 87, 87, 83, 75, 79, 87, 87, 87, 87, 87, 85], 75)) (by decide) (by decide) (by decide) (by decide) ?_
              refine z_iconst (n := 5) (v := 5) (q := 87) (by decide +kernel) rfl (by decide) ?_
              exact z_iret (by decide +kernel)
            · skip
              have nc1 := lv_neT (a := 103) c1 (by decide)
              have nc2 := lv_neT (a := 104) c2 (by decide)
              have nc3 := lv_neT (a := 109) c3 (by decide)
              have nc4 := lv_neT (a := 110) c4 (by decide)
              have nc5 := lv_neT (a := 111) c5 (by decide)
              have nc6 := lv_neT (a := 117) c6 (by decide)
              refine z_tabOut (t := 88) (by decide +kernel : decode cX5_kindOf 1 = .ok (.tableswitch 87 103 117 #[77, 81, 87, 87, 87, 87, 83, 75, 79, 87, 87, 87, 87, 87, 85], 75)) (by
                  by_cases ho : (v0).toInt < 103 ∨ 117 < (v0).toInt
                  · exact Or.inl ho
                  · refine Or.inr ⟨by omega, by omega, ?_⟩
                    have hh : (v0).toInt = 105 ∨ (v0).toInt = 106 ∨ (v0).toInt = 107 ∨ (v0).toInt = 108 ∨ (v0).toInt = 112 ∨ (v0).toInt = 113 ∨ (v0).toInt = 114 ∨ (v0).toInt = 115 ∨ (v0).toInt = 116 := by omega
                    rcases hh with hh | hh | hh | hh | hh | hh | hh | hh | hh <;> rw [hh] <;> rfl) (by decide) ?_
              refine zsub [] rfl ?_
              exact sj_X5_kindOf_88 g l 
def jn_X5_readsRoad_108 (w0 : Int32) : zAH → Option (Int32 × zAH) := fun h => if w0 = 0 ∨ w0 = 1 then some (w0, h) else none
theorem sj_X5_readsRoad_108 (g : zG) (l : Launch) (w0 : Int32) : zSm g l cX5_readsRoad 2 RX5 "readsRoad" (some .boolean) 1 22 zrI 108 [] [.int w0] (jn_X5_readsRoad_108 w0) := by
  unfold jn_X5_readsRoad_108
  exact z_zret (by decide +kernel)
def jn_X5_readsRoad_96 (v0 : Nat) : zAH → Option (Int32 × zAH) := fun h => (zgI 5 20 v0 h).bind fun x1 => if 0 < x1 then jn_X5_readsRoad_108 1 h else jn_X5_readsRoad_108 0 h
theorem sj_X5_readsRoad_96 (g : zG) (l : Launch) (v0 : Nat) : zSm g l cX5_readsRoad 2 RX5 "readsRoad" (some .boolean) 1 22 zrI 96 [(0, .ref v0)] [] (jn_X5_readsRoad_96 v0) := by
  unfold jn_X5_readsRoad_96
  refine z_aload_n (j := 0) (q := 97) (by decide +kernel) rfl 0 rfl ?_
  refine z_getI (q := 100) zf_RX5_120 (by decide +kernel) rfl fun x1 => ?_
  refine z_if_le (off := 7) (t := 107) (q := 103) (by decide +kernel) (by decide) rfl ?_ ?_
  · refine z_iconst (n := 0) (v := 0) (q := 108) (by decide +kernel) rfl (by decide) ?_
    refine zsub [] rfl ?_
    exact sj_X5_readsRoad_108 g l 0
  · refine z_iconst (n := 1) (v := 1) (q := 104) (by decide +kernel) rfl (by decide) ?_
    refine z_goto (off := 4) (t := 108) (by decide +kernel) (by decide) ?_
    refine zsub [] rfl ?_
    exact sj_X5_readsRoad_108 g l 1
def lb_X5_readsRoad_26 (v0 : Nat) (v1 : Int32) (rec : (Unit) → zAH → Option (Int32 × zAH)) (s : Unit) : zAH → Option (Int32 × zAH) := fun h => (zgI 5 20 v0 h).bind fun x1 => if x1 < 40 then (zgI 5 19 v0 h).bind fun x2 => zbd (dn_X5_byteAt v0 v1 x2 h) fun x3 h4 => zbd (dn_X5_slopeOf x3 h4) fun x5 h6 => if x5 = ((-9)) then jn_X5_readsRoad_96 v0 h6 else (zgA 5 22 v0 h6).bind fun x7 => (zgI 5 20 v0 h6).bind fun x8 => (zgI 5 19 v0 h6).bind fun x9 => zbd (dn_X5_byteAt v0 v1 x9 h6) fun x10 h11 => zbd (dn_X5_slopeOf x10 h11) fun x12 h13 => (zaS 0 x7 x8 x12 h13).bind fun h14 => (zgI 5 20 v0 h14).bind fun x15 => (zpF 5 20 v0 (.int (x15 + 1)) h14).bind fun h16 => (zgI 5 19 v0 h16).bind fun x17 => (zpF 5 19 v0 (.int (x17 + 1)) h16).bind fun h18 => rec () h18 else jn_X5_readsRoad_96 v0 h
def lp_X5_readsRoad_26 (v0 : Nat) (v1 : Int32) (s : Unit) : zAH → Option (Int32 × zAH) := zlp (lb_X5_readsRoad_26 v0 v1) 2000 s
theorem sl_X5_readsRoad_26 (g : zG) (l : Launch) (v0 : Nat) (v1 : Int32) (s : Unit) : zSm g l cX5_readsRoad 2 RX5 "readsRoad" (some .boolean) 1 22 zrI 26 [(0, .ref v0), (1, .int v1)] [] (lp_X5_readsRoad_26 v0 v1 s) := by
  unfold lp_X5_readsRoad_26
  refine z_loop (lvf := fun s => [(0, .ref v0), (1, .int v1)]) (fun rec hrec s => ?_) 2000 s
  unfold lb_X5_readsRoad_26
  refine z_aload_n (j := 0) (q := 27) (by decide +kernel) rfl 0 rfl ?_
  refine z_getI (q := 30) zf_RX5_120 (by decide +kernel) rfl fun x1 => ?_
  refine z_bipush (n := 40) (v := 40) (q := 32) (by decide +kernel) rfl (by decide) ?_
  refine z_icmp_ge (off := 64) (t := 96) (q := 35) (by decide +kernel) (by decide) rfl ?_ ?_
  · refine zsub [0] rfl ?_
    exact sj_X5_readsRoad_96 g l v0
  · refine z_aload_n (j := 0) (q := 36) (by decide +kernel) rfl 0 rfl ?_
    refine z_iload_n (j := 1) (q := 37) (by decide +kernel) rfl 1 rfl ?_
    refine z_aload_n (j := 0) (q := 38) (by decide +kernel) rfl 0 rfl ?_
    refine z_getI (q := 41) zf_RX5_114 (by decide +kernel) rfl fun x2 => ?_
    refine z_callVI (As := [.int v1, .int x2]) (st := []) (q := 44) (ct_X5_byteAt g l v0 v1 x2) zm_RX5_117 (rc_X5_byteAt v0 v1 x2) rfl (by decide) (by decide) (Nat.le_of_ble_eq_true rfl) rfl (by decide +kernel) rfl fun x3 => ?_
    refine z_callSI (As := [.int x3]) (st := []) (q := 47) (ct_X5_slopeOf g l x3) zm_RX5_123 rfl (by decide) (by decide) (Nat.le_of_ble_eq_true rfl) rfl (by decide +kernel) rfl fun x5 => ?_
    refine z_bipush (n := (-9)) (v := (-9)) (q := 49) (by decide +kernel) rfl (by decide) ?_
    refine z_icmp_eq (off := 47) (t := 96) (q := 52) (by decide +kernel) (by decide) rfl ?_ ?_
    · refine zsub [0] rfl ?_
      exact sj_X5_readsRoad_96 g l v0
    · refine z_aload_n (j := 0) (q := 53) (by decide +kernel) rfl 0 rfl ?_
      refine z_getA (q := 56) zf_RX5_47 (by decide +kernel) rfl fun x7 => ?_
      refine z_aload_n (j := 0) (q := 57) (by decide +kernel) rfl 0 rfl ?_
      refine z_getI (q := 60) zf_RX5_120 (by decide +kernel) rfl fun x8 => ?_
      refine z_aload_n (j := 0) (q := 61) (by decide +kernel) rfl 0 rfl ?_
      refine z_iload_n (j := 1) (q := 62) (by decide +kernel) rfl 1 rfl ?_
      refine z_aload_n (j := 0) (q := 63) (by decide +kernel) rfl 0 rfl ?_
      refine z_getI (q := 66) zf_RX5_114 (by decide +kernel) rfl fun x9 => ?_
      refine z_callVI (As := [.int v1, .int x9]) (st := [.int x8, .ref x7]) (q := 69) (ct_X5_byteAt g l v0 v1 x9) zm_RX5_117 (rc_X5_byteAt v0 v1 x9) rfl (by decide) (by decide) (Nat.le_of_ble_eq_true rfl) rfl (by decide +kernel) rfl fun x10 => ?_
      refine z_callSI (As := [.int x10]) (st := [.int x8, .ref x7]) (q := 72) (ct_X5_slopeOf g l x10) zm_RX5_123 rfl (by decide) (by decide) (Nat.le_of_ble_eq_true rfl) rfl (by decide +kernel) rfl fun x12 => ?_
      refine z_iast (q := 73) (Or.inl ⟨rfl, rfl, rfl⟩) (by decide +kernel) rfl ?_
      refine z_aload_n (j := 0) (q := 74) (by decide +kernel) rfl 0 rfl ?_
      refine z_dup (q := 75) (by decide +kernel) rfl rfl ?_
      refine z_getI (q := 78) zf_RX5_120 (by decide +kernel) rfl fun x15 => ?_
      refine z_iconst (n := 1) (v := 1) (q := 79) (by decide +kernel) rfl (by decide) ?_
      refine z_iadd (q := 80) (by decide +kernel) rfl ?_
      refine z_putV (q := 83) zp_RX5_120 (fun z => by cases z) rfl rfl (by decide +kernel) rfl ?_
      refine z_aload_n (j := 0) (q := 84) (by decide +kernel) rfl 0 rfl ?_
      refine z_dup (q := 85) (by decide +kernel) rfl rfl ?_
      refine z_getI (q := 88) zf_RX5_114 (by decide +kernel) rfl fun x17 => ?_
      refine z_iconst (n := 1) (v := 1) (q := 89) (by decide +kernel) rfl (by decide) ?_
      refine z_iadd (q := 90) (by decide +kernel) rfl ?_
      refine z_putV (q := 93) zp_RX5_114 (fun z => by cases z) rfl rfl (by decide +kernel) rfl ?_
      refine z_goto (off := (-67)) (t := 26) (by decide +kernel) (by decide) ?_
      refine zsub [0, 1] rfl ?_
      exact hrec ()
def dn_X5_readsRoad (v0 : Nat) (v1 : Int32) : zAH → Option (Int32 × zAH) := fun h => (zgO 5 v0 h).bind fun _ => (zgI 5 19 v0 h).bind fun x1 => zbd (dn_X5_byteAt v0 v1 x1 h) fun x2 h3 => if x2 = 121 then (zgI 5 19 v0 h3).bind fun x4 => (zpF 5 19 v0 (.int (x4 + 1)) h3).bind fun h5 => lp_X5_readsRoad_26 v0 v1 () h5 else if (0 : Int32) = 0 ∨ (0 : Int32) = 1 then some (0, h3) else none
theorem ct_X5_readsRoad (g : zG) (l : Launch) (v0 : Nat) (v1 : Int32) : zCt g l yX5_readsRoad cX5_readsRoad 2 (some .boolean) 1 22 zrI [.ref v0, .int v1] (dn_X5_readsRoad v0 v1) := by
  refine zCt_of (lv := [(0, .ref v0), (1, .int v1)]) (by decide +kernel) (Nat.le_of_ble_eq_true rfl) rfl ?_
  show zSm g l cX5_readsRoad 2 RX5 "readsRoad" (some .boolean) 1 22 zrI 0 [(0, .ref v0), (1, .int v1)] [] (dn_X5_readsRoad v0 v1)
  unfold dn_X5_readsRoad
  refine z_rec ?_
  refine z_aload_n (j := 0) (q := 1) (by decide +kernel) rfl 0 rfl ?_
  refine z_iload_n (j := 1) (q := 2) (by decide +kernel) rfl 1 rfl ?_
  refine z_aload_n (j := 0) (q := 3) (by decide +kernel) rfl 0 rfl ?_
  refine z_getI (q := 6) zf_RX5_114 (by decide +kernel) rfl fun x1 => ?_
  refine z_callVI (As := [.int v1, .int x1]) (st := []) (q := 9) (ct_X5_byteAt g l v0 v1 x1) zm_RX5_117 (rc_X5_byteAt v0 v1 x1) rfl (by decide) (by decide) (Nat.le_of_ble_eq_true rfl) rfl (by decide +kernel) rfl fun x2 => ?_
  refine z_bipush (n := 121) (v := 121) (q := 11) (by decide +kernel) rfl (by decide) ?_
  refine z_icmp_eq (off := 5) (t := 16) (q := 14) (by decide +kernel) (by decide) rfl ?_ ?_
  · refine z_aload_n (j := 0) (q := 17) (by decide +kernel) rfl 0 rfl ?_
    refine z_dup (q := 18) (by decide +kernel) rfl rfl ?_
    refine z_getI (q := 21) zf_RX5_114 (by decide +kernel) rfl fun x4 => ?_
    refine z_iconst (n := 1) (v := 1) (q := 22) (by decide +kernel) rfl (by decide) ?_
    refine z_iadd (q := 23) (by decide +kernel) rfl ?_
    refine z_putV (q := 26) zp_RX5_114 (fun z => by cases z) rfl rfl (by decide +kernel) rfl ?_
    refine zsub [0, 1] rfl ?_
    exact sl_X5_readsRoad_26 g l v0 v1 ()
  · refine z_iconst (n := 0) (v := 0) (q := 15) (by decide +kernel) rfl (by decide) ?_
    exact z_zret (by decide +kernel)
theorem rc_X5_readsRoad (v0 : Nat) (v1 : Int32) : ∀ h x, dn_X5_readsRoad v0 v1 h = some x → ∃ fs, zgO 5 v0 h = some fs := fun h x hd => by
  obtain ⟨fs, e, -⟩ := Option.bind_eq_some_iff.mp hd
  exact ⟨fs, e⟩
def jn_X5_readsRunner_27 : zAH → Option (Int32 × zAH) := fun h => if (0 : Int32) = 0 ∨ (0 : Int32) = 1 then some (0, h) else none
theorem sj_X5_readsRunner_27 (g : zG) (l : Launch) : zSm g l cX5_readsRunner 5 RX5 "readsRunner" (some .boolean) 1 22 zrI 27 [] [] (jn_X5_readsRunner_27) := by
  unfold jn_X5_readsRunner_27
  refine z_iconst (n := 0) (v := 0) (q := 28) (by decide +kernel) rfl (by decide) ?_
  exact z_zret (by decide +kernel)
def jn_X5_readsRunner_144 (v0 : Nat) (v2 : Int32) (v3 : Int32) (v4 : Int32) : zAH → Option (Int32 × zAH) := fun h => if v4 = 0 then if (0 : Int32) = 0 ∨ (0 : Int32) = 1 then some (0, h) else none else (zgA 5 23 v0 h).bind fun x1 => (zgI 5 21 v0 h).bind fun x2 => (zaS 0 x1 x2 v2 h).bind fun h3 => (zgA 5 24 v0 h3).bind fun x4 => (zgI 5 21 v0 h3).bind fun x5 => (zaS 0 x4 x5 v3 h3).bind fun h6 => (zgA 5 25 v0 h6).bind fun x7 => (zgI 5 21 v0 h6).bind fun x8 => (zaS 0 x7 x8 v4 h6).bind fun h9 => (zgI 5 21 v0 h9).bind fun x10 => (zpF 5 21 v0 (.int (x10 + 1)) h9).bind fun h11 => if (1 : Int32) = 0 ∨ (1 : Int32) = 1 then some (1, h11) else none
theorem sj_X5_readsRunner_144 (g : zG) (l : Launch) (v0 : Nat) (v2 : Int32) (v3 : Int32) (v4 : Int32) : zSm g l cX5_readsRunner 5 RX5 "readsRunner" (some .boolean) 1 22 zrI 144 [(0, .ref v0), (2, .int v2), (3, .int v3), (4, .int v4)] [] (jn_X5_readsRunner_144 v0 v2 v3 v4) := by
  unfold jn_X5_readsRunner_144
  refine z_iload (j := 4) (q := 146) (by decide +kernel) rfl 3 rfl ?_
  refine z_if_ne (off := 5) (t := 151) (q := 149) (by decide +kernel) (by decide) rfl ?_ ?_
  · refine z_aload_n (j := 0) (q := 152) (by decide +kernel) rfl 0 rfl ?_
    refine z_getA (q := 155) zf_RX5_50 (by decide +kernel) rfl fun x1 => ?_
    refine z_aload_n (j := 0) (q := 156) (by decide +kernel) rfl 0 rfl ?_
    refine z_getI (q := 159) zf_RX5_129 (by decide +kernel) rfl fun x2 => ?_
    refine z_iload_n (j := 2) (q := 160) (by decide +kernel) rfl 1 rfl ?_
    refine z_iast (q := 161) (Or.inl ⟨rfl, rfl, rfl⟩) (by decide +kernel) rfl ?_
    refine z_aload_n (j := 0) (q := 162) (by decide +kernel) rfl 0 rfl ?_
    refine z_getA (q := 165) zf_RX5_53 (by decide +kernel) rfl fun x4 => ?_
    refine z_aload_n (j := 0) (q := 166) (by decide +kernel) rfl 0 rfl ?_
    refine z_getI (q := 169) zf_RX5_129 (by decide +kernel) rfl fun x5 => ?_
    refine z_iload_n (j := 3) (q := 170) (by decide +kernel) rfl 2 rfl ?_
    refine z_iast (q := 171) (Or.inl ⟨rfl, rfl, rfl⟩) (by decide +kernel) rfl ?_
    refine z_aload_n (j := 0) (q := 172) (by decide +kernel) rfl 0 rfl ?_
    refine z_getA (q := 175) zf_RX5_56 (by decide +kernel) rfl fun x7 => ?_
    refine z_aload_n (j := 0) (q := 176) (by decide +kernel) rfl 0 rfl ?_
    refine z_getI (q := 179) zf_RX5_129 (by decide +kernel) rfl fun x8 => ?_
    refine z_iload (j := 4) (q := 181) (by decide +kernel) rfl 3 rfl ?_
    refine z_iast (q := 182) (Or.inl ⟨rfl, rfl, rfl⟩) (by decide +kernel) rfl ?_
    refine z_aload_n (j := 0) (q := 183) (by decide +kernel) rfl 0 rfl ?_
    refine z_dup (q := 184) (by decide +kernel) rfl rfl ?_
    refine z_getI (q := 187) zf_RX5_129 (by decide +kernel) rfl fun x10 => ?_
    refine z_iconst (n := 1) (v := 1) (q := 188) (by decide +kernel) rfl (by decide) ?_
    refine z_iadd (q := 189) (by decide +kernel) rfl ?_
    refine z_putV (q := 192) zp_RX5_129 (fun z => by cases z) rfl rfl (by decide +kernel) rfl ?_
    refine z_iconst (n := 1) (v := 1) (q := 193) (by decide +kernel) rfl (by decide) ?_
    exact z_zret (by decide +kernel)
  · refine z_iconst (n := 0) (v := 0) (q := 150) (by decide +kernel) rfl (by decide) ?_
    exact z_zret (by decide +kernel)
def lb_X5_readsRunner_77 (v0 : Nat) (v1 : Int32) (v2 : Int32) (v3 : Int32) (rec : (Int32) → zAH → Option (Int32 × zAH)) (s : Int32) : zAH → Option (Int32 × zAH) := fun h => if s < 8 then (zgI 5 19 v0 h).bind fun x1 => zbd (dn_X5_byteAt v0 v1 x1 h) fun x2 h3 => zbd (dn_X5_paceOf x2 h3) fun x4 h5 => if x4 = ((-9)) then jn_X5_readsRunner_144 v0 v2 v3 s h5 else (zgA 5 26 v0 h5).bind fun x6 => (zgI 5 21 v0 h5).bind fun x7 => (zgI 5 19 v0 h5).bind fun x8 => zbd (dn_X5_byteAt v0 v1 x8 h5) fun x9 h10 => zbd (dn_X5_paceOf x9 h10) fun x11 h12 => (zaS 0 x6 ((8 * x7) + s) x11 h12).bind fun h13 => (zgI 5 19 v0 h13).bind fun x14 => (zpF 5 19 v0 (.int (x14 + 1)) h13).bind fun h15 => rec (s + 1) h15 else jn_X5_readsRunner_144 v0 v2 v3 s h
def lp_X5_readsRunner_77 (v0 : Nat) (v1 : Int32) (v2 : Int32) (v3 : Int32) (s : Int32) : zAH → Option (Int32 × zAH) := zlp (lb_X5_readsRunner_77 v0 v1 v2 v3) 2000 s
theorem sl_X5_readsRunner_77 (g : zG) (l : Launch) (v0 : Nat) (v1 : Int32) (v2 : Int32) (v3 : Int32) (s : Int32) : zSm g l cX5_readsRunner 5 RX5 "readsRunner" (some .boolean) 1 22 zrI 77 [(0, .ref v0), (1, .int v1), (2, .int v2), (3, .int v3), (4, .int s)] [] (lp_X5_readsRunner_77 v0 v1 v2 v3 s) := by
  unfold lp_X5_readsRunner_77
  refine z_loop (lvf := fun s => [(0, .ref v0), (1, .int v1), (2, .int v2), (3, .int v3), (4, .int s)]) (fun rec hrec s => ?_) 2000 s
  unfold lb_X5_readsRunner_77
  refine z_iload (j := 4) (q := 79) (by decide +kernel) rfl 4 rfl ?_
  refine z_bipush (n := 8) (v := 8) (q := 81) (by decide +kernel) rfl (by decide) ?_
  refine z_icmp_ge (off := 63) (t := 144) (q := 84) (by decide +kernel) (by decide) rfl ?_ ?_
  · refine zsub [0, 2, 3, 4] rfl ?_
    exact sj_X5_readsRunner_144 g l v0 v2 v3 s
  · refine z_aload_n (j := 0) (q := 85) (by decide +kernel) rfl 0 rfl ?_
    refine z_iload_n (j := 1) (q := 86) (by decide +kernel) rfl 1 rfl ?_
    refine z_aload_n (j := 0) (q := 87) (by decide +kernel) rfl 0 rfl ?_
    refine z_getI (q := 90) zf_RX5_114 (by decide +kernel) rfl fun x1 => ?_
    refine z_callVI (As := [.int v1, .int x1]) (st := []) (q := 93) (ct_X5_byteAt g l v0 v1 x1) zm_RX5_117 (rc_X5_byteAt v0 v1 x1) rfl (by decide) (by decide) (Nat.le_of_ble_eq_true rfl) rfl (by decide +kernel) rfl fun x2 => ?_
    refine z_callSI (As := [.int x2]) (st := []) (q := 96) (ct_X5_paceOf g l x2) zm_RX5_132 rfl (by decide) (by decide) (Nat.le_of_ble_eq_true rfl) rfl (by decide +kernel) rfl fun x4 => ?_
    refine z_bipush (n := (-9)) (v := (-9)) (q := 98) (by decide +kernel) rfl (by decide) ?_
    refine z_icmp_eq (off := 46) (t := 144) (q := 101) (by decide +kernel) (by decide) rfl ?_ ?_
    · refine zsub [0, 2, 3, 4] rfl ?_
      exact sj_X5_readsRunner_144 g l v0 v2 v3 s
    · refine z_aload_n (j := 0) (q := 102) (by decide +kernel) rfl 0 rfl ?_
      refine z_getA (q := 105) zf_RX5_59 (by decide +kernel) rfl fun x6 => ?_
      refine z_bipush (n := 8) (v := 8) (q := 107) (by decide +kernel) rfl (by decide) ?_
      refine z_aload_n (j := 0) (q := 108) (by decide +kernel) rfl 0 rfl ?_
      refine z_getI (q := 111) zf_RX5_129 (by decide +kernel) rfl fun x7 => ?_
      refine z_imul (q := 112) (by decide +kernel) rfl ?_
      refine z_iload (j := 4) (q := 114) (by decide +kernel) rfl 4 rfl ?_
      refine z_iadd (q := 115) (by decide +kernel) rfl ?_
      refine z_aload_n (j := 0) (q := 116) (by decide +kernel) rfl 0 rfl ?_
      refine z_iload_n (j := 1) (q := 117) (by decide +kernel) rfl 1 rfl ?_
      refine z_aload_n (j := 0) (q := 118) (by decide +kernel) rfl 0 rfl ?_
      refine z_getI (q := 121) zf_RX5_114 (by decide +kernel) rfl fun x8 => ?_
      refine z_callVI (As := [.int v1, .int x8]) (st := [.int ((8 * x7) + s), .ref x6]) (q := 124) (ct_X5_byteAt g l v0 v1 x8) zm_RX5_117 (rc_X5_byteAt v0 v1 x8) rfl (by decide) (by decide) (Nat.le_of_ble_eq_true rfl) rfl (by decide +kernel) rfl fun x9 => ?_
      refine z_callSI (As := [.int x9]) (st := [.int ((8 * x7) + s), .ref x6]) (q := 127) (ct_X5_paceOf g l x9) zm_RX5_132 rfl (by decide) (by decide) (Nat.le_of_ble_eq_true rfl) rfl (by decide +kernel) rfl fun x11 => ?_
      refine z_iast (q := 128) (Or.inl ⟨rfl, rfl, rfl⟩) (by decide +kernel) rfl ?_
      refine z_iinc (j := 4) (n := 1) (v := 1) (q := 131) (by decide +kernel) rfl 4 rfl (by decide) (by decide) rfl ?_
      refine z_aload_n (j := 0) (q := 132) (by decide +kernel) rfl 1 rfl ?_
      refine z_dup (q := 133) (by decide +kernel) rfl rfl ?_
      refine z_getI (q := 136) zf_RX5_114 (by decide +kernel) rfl fun x14 => ?_
      refine z_iconst (n := 1) (v := 1) (q := 137) (by decide +kernel) rfl (by decide) ?_
      refine z_iadd (q := 138) (by decide +kernel) rfl ?_
      refine z_putV (q := 141) zp_RX5_114 (fun z => by cases z) rfl rfl (by decide +kernel) rfl ?_
      refine z_goto (off := (-64)) (t := 77) (by decide +kernel) (by decide) ?_
      refine zsub [1, 2, 3, 4, 0] rfl ?_
      exact hrec (s + 1)
def dn_X5_readsRunner (v0 : Nat) (v1 : Int32) : zAH → Option (Int32 × zAH) := fun h => (zgO 5 v0 h).bind fun _ => (zgI 5 19 v0 h).bind fun x1 => zbd (dn_X5_byteAt v0 v1 x1 h) fun x2 h3 => zbd (dn_X5_kindOf x2 h3) fun x4 h5 => if x4 = ((-9)) then jn_X5_readsRunner_27 h5 else (zgI 5 21 v0 h5).bind fun x6 => if x6 = 5 then jn_X5_readsRunner_27 h5 else (zgI 5 19 v0 h5).bind fun x7 => (zpF 5 19 v0 (.int (x7 + 1)) h5).bind fun h8 => (zgI 5 19 v0 h8).bind fun x9 => zbd (dn_X5_byteAt v0 v1 x9 h8) fun x10 h11 => zbd (dn_X5_in (x10 - 48) 1 9 h11) fun x12 h13 => if x12 = 0 then if (0 : Int32) = 0 ∨ (0 : Int32) = 1 then some (0, h13) else none else (zgI 5 19 v0 h13).bind fun x14 => (zpF 5 19 v0 (.int (x14 + 1)) h13).bind fun h15 => lp_X5_readsRunner_77 v0 v1 x4 (x10 - 48) 0 h15
theorem ct_X5_readsRunner (g : zG) (l : Launch) (v0 : Nat) (v1 : Int32) : zCt g l yX5_readsRunner cX5_readsRunner 5 (some .boolean) 1 22 zrI [.ref v0, .int v1] (dn_X5_readsRunner v0 v1) := by
  refine zCt_of (lv := [(0, .ref v0), (1, .int v1)]) (by decide +kernel) (Nat.le_of_ble_eq_true rfl) rfl ?_
  show zSm g l cX5_readsRunner 5 RX5 "readsRunner" (some .boolean) 1 22 zrI 0 [(0, .ref v0), (1, .int v1)] [] (dn_X5_readsRunner v0 v1)
  unfold dn_X5_readsRunner
  refine z_rec ?_
  refine z_aload_n (j := 0) (q := 1) (by decide +kernel) rfl 0 rfl ?_
  refine z_iload_n (j := 1) (q := 2) (by decide +kernel) rfl 1 rfl ?_
  refine z_aload_n (j := 0) (q := 3) (by decide +kernel) rfl 0 rfl ?_
  refine z_getI (q := 6) zf_RX5_114 (by decide +kernel) rfl fun x1 => ?_
  refine z_callVI (As := [.int v1, .int x1]) (st := []) (q := 9) (ct_X5_byteAt g l v0 v1 x1) zm_RX5_117 (rc_X5_byteAt v0 v1 x1) rfl (by decide) (by decide) (Nat.le_of_ble_eq_true rfl) rfl (by decide +kernel) rfl fun x2 => ?_
  refine z_callSI (As := [.int x2]) (st := []) (q := 12) (ct_X5_kindOf g l x2) zm_RX5_126 rfl (by decide) (by decide) (Nat.le_of_ble_eq_true rfl) rfl (by decide +kernel) rfl fun x4 => ?_
  refine z_istore_n (j := 2) (q := 13) (by decide +kernel) rfl (by decide) rfl ?_
  refine z_iload_n (j := 2) (q := 14) (by decide +kernel) rfl 0 rfl ?_
  refine z_bipush (n := (-9)) (v := (-9)) (q := 16) (by decide +kernel) rfl (by decide) ?_
  refine z_icmp_eq (off := 11) (t := 27) (q := 19) (by decide +kernel) (by decide) rfl ?_ ?_
  · refine zsub [] rfl ?_
    exact sj_X5_readsRunner_27 g l 
  · refine z_aload_n (j := 0) (q := 20) (by decide +kernel) rfl 1 rfl ?_
    refine z_getI (q := 23) zf_RX5_129 (by decide +kernel) rfl fun x6 => ?_
    refine z_iconst (n := 5) (v := 5) (q := 24) (by decide +kernel) rfl (by decide) ?_
    refine z_icmp_ne (off := 5) (t := 29) (q := 27) (by decide +kernel) (by decide) rfl ?_ ?_
    · refine z_aload_n (j := 0) (q := 30) (by decide +kernel) rfl 1 rfl ?_
      refine z_dup (q := 31) (by decide +kernel) rfl rfl ?_
      refine z_getI (q := 34) zf_RX5_114 (by decide +kernel) rfl fun x7 => ?_
      refine z_iconst (n := 1) (v := 1) (q := 35) (by decide +kernel) rfl (by decide) ?_
      refine z_iadd (q := 36) (by decide +kernel) rfl ?_
      refine z_putV (q := 39) zp_RX5_114 (fun z => by cases z) rfl rfl (by decide +kernel) rfl ?_
      refine z_aload_n (j := 0) (q := 40) (by decide +kernel) rfl 1 rfl ?_
      refine z_iload_n (j := 1) (q := 41) (by decide +kernel) rfl 2 rfl ?_
      refine z_aload_n (j := 0) (q := 42) (by decide +kernel) rfl 1 rfl ?_
      refine z_getI (q := 45) zf_RX5_114 (by decide +kernel) rfl fun x9 => ?_
      refine z_callVI (As := [.int v1, .int x9]) (st := []) (q := 48) (ct_X5_byteAt g l v0 v1 x9) zm_RX5_117 (rc_X5_byteAt v0 v1 x9) rfl (by decide) (by decide) (Nat.le_of_ble_eq_true rfl) rfl (by decide +kernel) rfl fun x10 => ?_
      refine z_bipush (n := 48) (v := 48) (q := 50) (by decide +kernel) rfl (by decide) ?_
      refine z_isub (q := 51) (by decide +kernel) rfl ?_
      refine z_istore_n (j := 3) (q := 52) (by decide +kernel) rfl (by decide) rfl ?_
      refine z_iload_n (j := 3) (q := 53) (by decide +kernel) rfl 0 rfl ?_
      refine z_iconst (n := 1) (v := 1) (q := 54) (by decide +kernel) rfl (by decide) ?_
      refine z_bipush (n := 9) (v := 9) (q := 56) (by decide +kernel) rfl (by decide) ?_
      refine z_callSI (As := [.int (x10 - 48), .int 1, .int 9]) (st := []) (q := 59) (ct_X5_in g l (x10 - 48) 1 9) zm_RX5_86 rfl (by decide) (by decide) (Nat.le_of_ble_eq_true rfl) rfl (by decide +kernel) rfl fun x12 => ?_
      refine z_if_ne (off := 5) (t := 64) (q := 62) (by decide +kernel) (by decide) rfl ?_ ?_
      · refine z_aload_n (j := 0) (q := 65) (by decide +kernel) rfl 2 rfl ?_
        refine z_dup (q := 66) (by decide +kernel) rfl rfl ?_
        refine z_getI (q := 69) zf_RX5_114 (by decide +kernel) rfl fun x14 => ?_
        refine z_iconst (n := 1) (v := 1) (q := 70) (by decide +kernel) rfl (by decide) ?_
        refine z_iadd (q := 71) (by decide +kernel) rfl ?_
        refine z_putV (q := 74) zp_RX5_114 (fun z => by cases z) rfl rfl (by decide +kernel) rfl ?_
        refine z_iconst (n := 0) (v := 0) (q := 75) (by decide +kernel) rfl (by decide) ?_
        refine z_istore (j := 4) (q := 77) (by decide +kernel) rfl (by decide) rfl ?_
        refine zsub [3, 4, 2, 1, 0] rfl ?_
        exact sl_X5_readsRunner_77 g l v0 v1 x4 (x10 - 48) 0
      · refine z_iconst (n := 0) (v := 0) (q := 63) (by decide +kernel) rfl (by decide) ?_
        exact z_zret (by decide +kernel)
    · refine zsub [] rfl ?_
      exact sj_X5_readsRunner_27 g l 
theorem rc_X5_readsRunner (v0 : Nat) (v1 : Int32) : ∀ h x, dn_X5_readsRunner v0 v1 h = some x → ∃ fs, zgO 5 v0 h = some fs := fun h x hd => by
  obtain ⟨fs, e, -⟩ := Option.bind_eq_some_iff.mp hd
  exact ⟨fs, e⟩
def jn_X5_faultOf_81 (v0 : Nat) : zAH → Option (Int32 × zAH) := fun h => (zgI 5 19 v0 h).bind fun x1 => some (x1, h)
theorem sj_X5_faultOf_81 (g : zG) (l : Launch) (v0 : Nat) : zSm g l cX5_faultOf 2 RX5 "faultOf" (some .int) 2 46 zrI 81 [(0, .ref v0)] [] (jn_X5_faultOf_81 v0) := by
  unfold jn_X5_faultOf_81
  refine z_aload_n (j := 0) (q := 82) (by decide +kernel) rfl 0 rfl ?_
  refine z_getI (q := 85) zf_RX5_114 (by decide +kernel) rfl fun x1 => ?_
  exact z_iret (by decide +kernel)
def jn_X5_faultOf_104 (w0 : Int32) : zAH → Option (Int32 × zAH) := fun h => some (w0, h)
theorem sj_X5_faultOf_104 (g : zG) (l : Launch) (w0 : Int32) : zSm g l cX5_faultOf 2 RX5 "faultOf" (some .int) 2 46 zrI 104 [] [.int w0] (jn_X5_faultOf_104 w0) := by
  unfold jn_X5_faultOf_104
  exact z_iret (by decide +kernel)
def jn_X5_faultOf_86 (v0 : Nat) (v1 : Int32) : zAH → Option (Int32 × zAH) := fun h => (zgI 5 20 v0 h).bind fun x1 => if x1 = 0 then (zgA 5 8 v0 h).bind fun x2 => (zaI 0 x2 v1 h).bind fun x3 => jn_X5_faultOf_104 x3 h else jn_X5_faultOf_104 ((-9)) h
theorem sj_X5_faultOf_86 (g : zG) (l : Launch) (v0 : Nat) (v1 : Int32) : zSm g l cX5_faultOf 2 RX5 "faultOf" (some .int) 2 46 zrI 86 [(0, .ref v0), (1, .int v1)] [] (jn_X5_faultOf_86 v0 v1) := by
  unfold jn_X5_faultOf_86
  refine z_aload_n (j := 0) (q := 87) (by decide +kernel) rfl 0 rfl ?_
  refine z_getI (q := 90) zf_RX5_120 (by decide +kernel) rfl fun x1 => ?_
  refine z_if_ne (off := 12) (t := 102) (q := 93) (by decide +kernel) (by decide) rfl ?_ ?_
  · refine z_bipush (n := (-9)) (v := (-9)) (q := 104) (by decide +kernel) rfl (by decide) ?_
    refine zsub [] rfl ?_
    exact sj_X5_faultOf_104 g l ((-9))
  · refine z_aload_n (j := 0) (q := 94) (by decide +kernel) rfl 0 rfl ?_
    refine z_getA (q := 97) zf_RX5_22 (by decide +kernel) rfl fun x2 => ?_
    refine z_iload_n (j := 1) (q := 98) (by decide +kernel) rfl 1 rfl ?_
    refine z_iald (q := 99) (Or.inl ⟨rfl, rfl⟩) (by decide +kernel) rfl fun x3 => ?_
    refine z_goto (off := 5) (t := 104) (by decide +kernel) (by decide) ?_
    refine zsub [] rfl ?_
    exact sj_X5_faultOf_104 g l x3
def lb_X5_faultOf_15 (v0 : Nat) (v1 : Int32) (rec : (Unit) → zAH → Option (Int32 × zAH)) (s : Unit) : zAH → Option (Int32 × zAH) := fun h => (zgI 5 19 v0 h).bind fun x1 => (zgA 5 8 v0 h).bind fun x2 => (zaI 0 x2 v1 h).bind fun x3 => if x1 < x3 then (zgI 5 19 v0 h).bind fun x4 => zbd (dn_X5_byteAt v0 v1 x4 h) fun x5 h6 => if x5 = 32 then (zgI 5 19 v0 h6).bind fun x12 => (zpF 5 19 v0 (.int (x12 + 1)) h6).bind fun h13 => rec () h13 else (zgI 5 20 v0 h6).bind fun x7 => if x7 = 0 then zbd (dn_X5_readsRoad v0 v1 h6) fun x10 h11 => if x10 = 0 then jn_X5_faultOf_81 v0 h11 else rec () h11 else zbd (dn_X5_readsRunner v0 v1 h6) fun x8 h9 => if x8 = 0 then jn_X5_faultOf_81 v0 h9 else rec () h9 else jn_X5_faultOf_86 v0 v1 h
def lp_X5_faultOf_15 (v0 : Nat) (v1 : Int32) (s : Unit) : zAH → Option (Int32 × zAH) := zlp (lb_X5_faultOf_15 v0 v1) 2000 s
theorem sl_X5_faultOf_15 (g : zG) (l : Launch) (v0 : Nat) (v1 : Int32) (s : Unit) : zSm g l cX5_faultOf 2 RX5 "faultOf" (some .int) 2 46 zrI 15 [(0, .ref v0), (1, .int v1)] [] (lp_X5_faultOf_15 v0 v1 s) := by
  unfold lp_X5_faultOf_15
  refine z_loop (lvf := fun s => [(0, .ref v0), (1, .int v1)]) (fun rec hrec s => ?_) 2000 s
  unfold lb_X5_faultOf_15
  refine z_aload_n (j := 0) (q := 16) (by decide +kernel) rfl 0 rfl ?_
  refine z_getI (q := 19) zf_RX5_114 (by decide +kernel) rfl fun x1 => ?_
  refine z_aload_n (j := 0) (q := 20) (by decide +kernel) rfl 0 rfl ?_
  refine z_getA (q := 23) zf_RX5_22 (by decide +kernel) rfl fun x2 => ?_
  refine z_iload_n (j := 1) (q := 24) (by decide +kernel) rfl 1 rfl ?_
  refine z_iald (q := 25) (Or.inl ⟨rfl, rfl⟩) (by decide +kernel) rfl fun x3 => ?_
  refine z_icmp_ge (off := 61) (t := 86) (q := 28) (by decide +kernel) (by decide) rfl ?_ ?_
  · refine zsub [0, 1] rfl ?_
    exact sj_X5_faultOf_86 g l v0 v1
  · refine z_aload_n (j := 0) (q := 29) (by decide +kernel) rfl 0 rfl ?_
    refine z_iload_n (j := 1) (q := 30) (by decide +kernel) rfl 1 rfl ?_
    refine z_aload_n (j := 0) (q := 31) (by decide +kernel) rfl 0 rfl ?_
    refine z_getI (q := 34) zf_RX5_114 (by decide +kernel) rfl fun x4 => ?_
    refine z_callVI (As := [.int v1, .int x4]) (st := []) (q := 37) (ct_X5_byteAt g l v0 v1 x4) zm_RX5_117 (rc_X5_byteAt v0 v1 x4) rfl (by decide) (by decide) (Nat.le_of_ble_eq_true rfl) rfl (by decide +kernel) rfl fun x5 => ?_
    refine z_bipush (n := 32) (v := 32) (q := 39) (by decide +kernel) rfl (by decide) ?_
    refine z_icmp_ne (off := 16) (t := 55) (q := 42) (by decide +kernel) (by decide) rfl ?_ ?_
    · refine z_aload_n (j := 0) (q := 56) (by decide +kernel) rfl 0 rfl ?_
      refine z_getI (q := 59) zf_RX5_120 (by decide +kernel) rfl fun x7 => ?_
      refine z_if_ne (off := 14) (t := 73) (q := 62) (by decide +kernel) (by decide) rfl ?_ ?_
      · refine z_aload_n (j := 0) (q := 74) (by decide +kernel) rfl 0 rfl ?_
        refine z_iload_n (j := 1) (q := 75) (by decide +kernel) rfl 1 rfl ?_
        refine z_callVI (As := [.int v1]) (st := []) (q := 78) (ct_X5_readsRunner g l v0 v1) zm_RX5_138 (rc_X5_readsRunner v0 v1) rfl (by decide) (by decide) (Nat.le_of_ble_eq_true rfl) rfl (by decide +kernel) rfl fun x8 => ?_
        refine z_if_ne (off := (-63)) (t := 15) (q := 81) (by decide +kernel) (by decide) rfl ?_ ?_
        · refine zsub [0, 1] rfl ?_
          exact hrec ()
        · refine zsub [0] rfl ?_
          exact sj_X5_faultOf_81 g l v0
      · refine z_aload_n (j := 0) (q := 63) (by decide +kernel) rfl 0 rfl ?_
        refine z_iload_n (j := 1) (q := 64) (by decide +kernel) rfl 1 rfl ?_
        refine z_callVI (As := [.int v1]) (st := []) (q := 67) (ct_X5_readsRoad g l v0 v1) zm_RX5_135 (rc_X5_readsRoad v0 v1) rfl (by decide) (by decide) (Nat.le_of_ble_eq_true rfl) rfl (by decide +kernel) rfl fun x10 => ?_
        refine z_if_eq (off := 14) (t := 81) (q := 70) (by decide +kernel) (by decide) rfl ?_ ?_
        · refine zsub [0] rfl ?_
          exact sj_X5_faultOf_81 g l v0
        · refine z_goto (off := (-55)) (t := 15) (by decide +kernel) (by decide) ?_
          refine zsub [0, 1] rfl ?_
          exact hrec ()
    · refine z_aload_n (j := 0) (q := 43) (by decide +kernel) rfl 0 rfl ?_
      refine z_dup (q := 44) (by decide +kernel) rfl rfl ?_
      refine z_getI (q := 47) zf_RX5_114 (by decide +kernel) rfl fun x12 => ?_
      refine z_iconst (n := 1) (v := 1) (q := 48) (by decide +kernel) rfl (by decide) ?_
      refine z_iadd (q := 49) (by decide +kernel) rfl ?_
      refine z_putV (q := 52) zp_RX5_114 (fun z => by cases z) rfl rfl (by decide +kernel) rfl ?_
      refine z_goto (off := (-37)) (t := 15) (by decide +kernel) (by decide) ?_
      refine zsub [0, 1] rfl ?_
      exact hrec ()
def dn_X5_faultOf (v0 : Nat) (v1 : Int32) : zAH → Option (Int32 × zAH) := fun h => (zgO 5 v0 h).bind fun _ => (zpF 5 19 v0 (.int 0) h).bind fun h1 => (zpF 5 20 v0 (.int 0) h1).bind fun h2 => (zpF 5 21 v0 (.int 0) h2).bind fun h3 => lp_X5_faultOf_15 v0 v1 () h3
theorem ct_X5_faultOf (g : zG) (l : Launch) (v0 : Nat) (v1 : Int32) : zCt g l yX5_faultOf cX5_faultOf 2 (some .int) 2 46 zrI [.ref v0, .int v1] (dn_X5_faultOf v0 v1) := by
  refine zCt_of (lv := [(0, .ref v0), (1, .int v1)]) (by decide +kernel) (Nat.le_of_ble_eq_true rfl) rfl ?_
  show zSm g l cX5_faultOf 2 RX5 "faultOf" (some .int) 2 46 zrI 0 [(0, .ref v0), (1, .int v1)] [] (dn_X5_faultOf v0 v1)
  unfold dn_X5_faultOf
  refine z_rec ?_
  refine z_aload_n (j := 0) (q := 1) (by decide +kernel) rfl 0 rfl ?_
  refine z_iconst (n := 0) (v := 0) (q := 2) (by decide +kernel) rfl (by decide) ?_
  refine z_putV (q := 5) zp_RX5_114 (fun z => by cases z) rfl rfl (by decide +kernel) rfl ?_
  refine z_aload_n (j := 0) (q := 6) (by decide +kernel) rfl 0 rfl ?_
  refine z_iconst (n := 0) (v := 0) (q := 7) (by decide +kernel) rfl (by decide) ?_
  refine z_putV (q := 10) zp_RX5_120 (fun z => by cases z) rfl rfl (by decide +kernel) rfl ?_
  refine z_aload_n (j := 0) (q := 11) (by decide +kernel) rfl 0 rfl ?_
  refine z_iconst (n := 0) (v := 0) (q := 12) (by decide +kernel) rfl (by decide) ?_
  refine z_putV (q := 15) zp_RX5_129 (fun z => by cases z) rfl rfl (by decide +kernel) rfl ?_
  refine zsub [0, 1] rfl ?_
  exact sl_X5_faultOf_15 g l v0 v1 ()
theorem rc_X5_faultOf (v0 : Nat) (v1 : Int32) : ∀ h x, dn_X5_faultOf v0 v1 h = some x → ∃ fs, zgO 5 v0 h = some fs := fun h x hd => by
  obtain ⟨fs, e, -⟩ := Option.bind_eq_some_iff.mp hd
  exact ⟨fs, e⟩
