def jn_X5_fault_31 (w0 : Int32) : zAH → Option (Int32 × zAH) := fun h => some (w0, h)
theorem sj_X5_fault_31 (g : zG) (l : Launch) (w0 : Int32) : zSm g l cX5_fault 2 RX5 "fault" (some .int) 3 67 zrI 31 [] [.int w0] (jn_X5_fault_31 w0) := by
  unfold jn_X5_fault_31
  exact z_iret (by decide +kernel)
def dn_X5_fault (v0 : Nat) (v1 : Int32) : zAH → Option (Int32 × zAH) := fun h => (zgO 5 v0 h).bind fun _ => zbd (dn_X5_isText v1 h) fun x1 h2 => if x1 = 0 then some ((-1), h2) else (zgA 5 8 v0 h2).bind fun x3 => (zaI 0 x3 v1 h2).bind fun x4 => if x4 < 0 then zbd (dn_X5_meets v0 1 h2) fun x7 h8 => jn_X5_fault_31 x7 h8 else zbd (dn_X5_faultOf v0 v1 h2) fun x5 h6 => jn_X5_fault_31 x5 h6
theorem ct_X5_fault (g : zG) (l : Launch) (v0 : Nat) (v1 : Int32) : zCt g l yX5_fault cX5_fault 2 (some .int) 3 67 zrI [.ref v0, .int v1] (dn_X5_fault v0 v1) := by
  refine zCt_of (lv := [(0, .ref v0), (1, .int v1)]) (by decide +kernel) (Nat.le_of_ble_eq_true rfl) rfl ?_
  show zSm g l cX5_fault 2 RX5 "fault" (some .int) 3 67 zrI 0 [(0, .ref v0), (1, .int v1)] [] (dn_X5_fault v0 v1)
  unfold dn_X5_fault
  refine z_rec ?_
  refine z_iload_n (j := 1) (q := 1) (by decide +kernel) rfl 1 rfl ?_
  refine z_callSI (As := [.int v1]) (st := []) (q := 4) (ct_X5_isText g l v1) zm_RX5_111 rfl (by decide) (by decide) (Nat.le_of_ble_eq_true rfl) rfl (by decide +kernel) rfl fun x1 => ?_
  refine z_if_ne (off := 5) (t := 9) (q := 7) (by decide +kernel) (by decide) rfl ?_ ?_
  · refine z_aload_n (j := 0) (q := 10) (by decide +kernel) rfl 0 rfl ?_
    refine z_getA (q := 13) zf_RX5_22 (by decide +kernel) rfl fun x3 => ?_
    refine z_iload_n (j := 1) (q := 14) (by decide +kernel) rfl 1 rfl ?_
    refine z_iald (q := 15) (Or.inl ⟨rfl, rfl⟩) (by decide +kernel) rfl fun x4 => ?_
    refine z_if_ge (off := 11) (t := 26) (q := 18) (by decide +kernel) (by decide) rfl ?_ ?_
    · refine z_aload_n (j := 0) (q := 27) (by decide +kernel) rfl 0 rfl ?_
      refine z_iload_n (j := 1) (q := 28) (by decide +kernel) rfl 1 rfl ?_
      refine z_callVI (As := [.int v1]) (st := []) (q := 31) (ct_X5_faultOf g l v0 v1) zm_RX5_141 (rc_X5_faultOf v0 v1) rfl (by decide) (by decide) (Nat.le_of_ble_eq_true rfl) rfl (by decide +kernel) rfl fun x5 => ?_
      refine zsub [] rfl ?_
      exact sj_X5_fault_31 g l x5
    · refine z_aload_n (j := 0) (q := 19) (by decide +kernel) rfl 0 rfl ?_
      refine z_iconst (n := 1) (v := 1) (q := 20) (by decide +kernel) rfl (by decide) ?_
      refine z_callVI (As := [.int 1]) (st := []) (q := 23) (ct_X5_meets g l v0 1) zm_RX5_100 (rc_X5_meets v0 1) rfl (by decide) (by decide) (Nat.le_of_ble_eq_true rfl) rfl (by decide +kernel) rfl fun x7 => ?_
      refine z_goto (off := 8) (t := 31) (by decide +kernel) (by decide) ?_
      refine zsub [] rfl ?_
      exact sj_X5_fault_31 g l x7
  · refine z_iconst (n := (-1)) (v := (-1)) (q := 8) (by decide +kernel) rfl (by decide) ?_
    exact z_iret (by decide +kernel)
theorem rc_X5_fault (v0 : Nat) (v1 : Int32) : ∀ h x, dn_X5_fault v0 v1 h = some x → ∃ fs, zgO 5 v0 h = some fs := fun h x hd => by
  obtain ⟨fs, e, -⟩ := Option.bind_eq_some_iff.mp hd
  exact ⟨fs, e⟩
def dn_X5_look (v0 : Nat) (v1 : Int32) : zAH → Option (Unit × zAH) := fun h => (zgO 5 v0 h).bind fun _ => (zpF 5 29 v0 (.int (33 * v1)) h).bind fun h1 => some ((), h1)
theorem ct_X5_look (g : zG) (l : Launch) (v0 : Nat) (v1 : Int32) : zCt g l yX5_look cX5_look 2 none 0 0 zrV [.ref v0, .int v1] (dn_X5_look v0 v1) := by
  refine zCt_of (lv := [(0, .ref v0), (1, .int v1)]) (by decide +kernel) (Nat.le_of_ble_eq_true rfl) rfl ?_
  show zSm g l cX5_look 2 RX5 "look" none 0 0 zrV 0 [(0, .ref v0), (1, .int v1)] [] (dn_X5_look v0 v1)
  unfold dn_X5_look
  refine z_rec ?_
  refine z_aload_n (j := 0) (q := 1) (by decide +kernel) rfl 0 rfl ?_
  refine z_bipush (n := 33) (v := 33) (q := 3) (by decide +kernel) rfl (by decide) ?_
  refine z_iload_n (j := 1) (q := 4) (by decide +kernel) rfl 1 rfl ?_
  refine z_imul (q := 5) (by decide +kernel) rfl ?_
  refine z_putV (q := 8) zp_RX5_179 (fun z => by cases z) rfl rfl (by decide +kernel) rfl ?_
  exact z_vret (by decide +kernel)
theorem rc_X5_look (v0 : Nat) (v1 : Int32) : ∀ h x, dn_X5_look v0 v1 h = some x → ∃ fs, zgO 5 v0 h = some fs := fun h x hd => by
  obtain ⟨fs, e, -⟩ := Option.bind_eq_some_iff.mp hd
  exact ⟨fs, e⟩
def dn_X5_put_ (v0 : Nat) (v1 : Int32) (v2 : Int32) : zAH → Option (Unit × zAH) := fun h => (zgO 5 v0 h).bind fun _ => (zgA 5 28 v0 h).bind fun x1 => (zgI 5 29 v0 h).bind fun x2 => (zaS 0 x1 (x2 + v1) v2 h).bind fun h3 => some ((), h3)
theorem ct_X5_put_ (g : zG) (l : Launch) (v0 : Nat) (v1 : Int32) (v2 : Int32) : zCt g l yX5_put_ cX5_put_ 3 none 0 0 zrV [.ref v0, .int v1, .int v2] (dn_X5_put_ v0 v1 v2) := by
  refine zCt_of (lv := [(0, .ref v0), (1, .int v1), (2, .int v2)]) (by decide +kernel) (Nat.le_of_ble_eq_true rfl) rfl ?_
  show zSm g l cX5_put_ 3 RX5 "put" none 0 0 zrV 0 [(0, .ref v0), (1, .int v1), (2, .int v2)] [] (dn_X5_put_ v0 v1 v2)
  unfold dn_X5_put_
  refine z_rec ?_
  refine z_aload_n (j := 0) (q := 1) (by decide +kernel) rfl 0 rfl ?_
  refine z_getA (q := 4) zf_RX5_66 (by decide +kernel) rfl fun x1 => ?_
  refine z_aload_n (j := 0) (q := 5) (by decide +kernel) rfl 0 rfl ?_
  refine z_getI (q := 8) zf_RX5_179 (by decide +kernel) rfl fun x2 => ?_
  refine z_iload_n (j := 1) (q := 9) (by decide +kernel) rfl 1 rfl ?_
  refine z_iadd (q := 10) (by decide +kernel) rfl ?_
  refine z_iload_n (j := 2) (q := 11) (by decide +kernel) rfl 2 rfl ?_
  refine z_iast (q := 12) (Or.inl ⟨rfl, rfl, rfl⟩) (by decide +kernel) rfl ?_
  exact z_vret (by decide +kernel)
theorem rc_X5_put_ (v0 : Nat) (v1 : Int32) (v2 : Int32) : ∀ h x, dn_X5_put_ v0 v1 v2 h = some x → ∃ fs, zgO 5 v0 h = some fs := fun h x hd => by
  obtain ⟨fs, e, -⟩ := Option.bind_eq_some_iff.mp hd
  exact ⟨fs, e⟩
def jn_X5_starts_45 (w0 : Nat) (w1 : Int32) (w2 : Int32) : zAH → Option (Unit × zAH) := fun h => zbd (dn_X5_put_ w0 w1 w2 h) fun x1 h2 => some ((), h2)
theorem sj_X5_starts_45 (g : zG) (l : Launch) (w0 : Nat) (w1 : Int32) (w2 : Int32) : zSm g l cX5_starts 4 RX5 "starts" none 1 22 zrV 45 [] [.int w2, .int w1, .ref w0] (jn_X5_starts_45 w0 w1 w2) := by
  unfold jn_X5_starts_45
  refine z_callVU (As := [.int w1, .int w2]) (st := []) (q := 48) (ct_X5_put_ g l w0 w1 w2) zm_RX5_182 (rc_X5_put_ w0 w1 w2) rfl (by decide) (by decide) (Nat.le_of_ble_eq_true rfl) rfl (by decide +kernel) rfl fun x1 => ?_
  exact z_vret (by decide +kernel)
def dn_X5_starts (v0 : Nat) (v1 : Int32) (v2 : Int32) (v3 : Int32) : zAH → Option (Unit × zAH) := fun h => (zgO 5 v0 h).bind fun _ => zbd (dn_X5_put_ v0 (3 + v1) v3 h) fun x1 h2 => zbd (dn_X5_put_ v0 (8 + v1) v2 h2) fun x3 h4 => zbd (dn_X5_put_ v0 (28 + v1) v2 h4) fun x5 h6 => (zgI 5 10 v0 h6).bind fun x7 => if v3 < x7 then jn_X5_starts_45 v0 (13 + v1) ((-9)) h6 else jn_X5_starts_45 v0 (13 + v1) 0 h6
theorem ct_X5_starts (g : zG) (l : Launch) (v0 : Nat) (v1 : Int32) (v2 : Int32) (v3 : Int32) : zCt g l yX5_starts cX5_starts 4 none 1 22 zrV [.ref v0, .int v1, .int v2, .int v3] (dn_X5_starts v0 v1 v2 v3) := by
  refine zCt_of (lv := [(0, .ref v0), (1, .int v1), (2, .int v2), (3, .int v3)]) (by decide +kernel) (Nat.le_of_ble_eq_true rfl) rfl ?_
  show zSm g l cX5_starts 4 RX5 "starts" none 1 22 zrV 0 [(0, .ref v0), (1, .int v1), (2, .int v2), (3, .int v3)] [] (dn_X5_starts v0 v1 v2 v3)
  unfold dn_X5_starts
  refine z_rec ?_
  refine z_aload_n (j := 0) (q := 1) (by decide +kernel) rfl 0 rfl ?_
  refine z_iconst (n := 3) (v := 3) (q := 2) (by decide +kernel) rfl (by decide) ?_
  refine z_iload_n (j := 1) (q := 3) (by decide +kernel) rfl 1 rfl ?_
  refine z_iadd (q := 4) (by decide +kernel) rfl ?_
  refine z_iload_n (j := 3) (q := 5) (by decide +kernel) rfl 3 rfl ?_
  refine z_callVU (As := [.int (3 + v1), .int v3]) (st := []) (q := 8) (ct_X5_put_ g l v0 (3 + v1) v3) zm_RX5_182 (rc_X5_put_ v0 (3 + v1) v3) rfl (by decide) (by decide) (Nat.le_of_ble_eq_true rfl) rfl (by decide +kernel) rfl fun x1 => ?_
  refine z_aload_n (j := 0) (q := 9) (by decide +kernel) rfl 0 rfl ?_
  refine z_bipush (n := 8) (v := 8) (q := 11) (by decide +kernel) rfl (by decide) ?_
  refine z_iload_n (j := 1) (q := 12) (by decide +kernel) rfl 1 rfl ?_
  refine z_iadd (q := 13) (by decide +kernel) rfl ?_
  refine z_iload_n (j := 2) (q := 14) (by decide +kernel) rfl 2 rfl ?_
  refine z_callVU (As := [.int (8 + v1), .int v2]) (st := []) (q := 17) (ct_X5_put_ g l v0 (8 + v1) v2) zm_RX5_182 (rc_X5_put_ v0 (8 + v1) v2) rfl (by decide) (by decide) (Nat.le_of_ble_eq_true rfl) rfl (by decide +kernel) rfl fun x3 => ?_
  refine z_aload_n (j := 0) (q := 18) (by decide +kernel) rfl 0 rfl ?_
  refine z_bipush (n := 28) (v := 28) (q := 20) (by decide +kernel) rfl (by decide) ?_
  refine z_iload_n (j := 1) (q := 21) (by decide +kernel) rfl 1 rfl ?_
  refine z_iadd (q := 22) (by decide +kernel) rfl ?_
  refine z_iload_n (j := 2) (q := 23) (by decide +kernel) rfl 2 rfl ?_
  refine z_callVU (As := [.int (28 + v1), .int v2]) (st := []) (q := 26) (ct_X5_put_ g l v0 (28 + v1) v2) zm_RX5_182 (rc_X5_put_ v0 (28 + v1) v2) rfl (by decide) (by decide) (Nat.le_of_ble_eq_true rfl) rfl (by decide +kernel) rfl fun x5 => ?_
  refine z_aload_n (j := 0) (q := 27) (by decide +kernel) rfl 0 rfl ?_
  refine z_bipush (n := 13) (v := 13) (q := 29) (by decide +kernel) rfl (by decide) ?_
  refine z_iload_n (j := 1) (q := 30) (by decide +kernel) rfl 1 rfl ?_
  refine z_iadd (q := 31) (by decide +kernel) rfl ?_
  refine z_iload_n (j := 3) (q := 32) (by decide +kernel) rfl 3 rfl ?_
  refine z_aload_n (j := 0) (q := 33) (by decide +kernel) rfl 0 rfl ?_
  refine z_getI (q := 36) zf_RX5_144 (by decide +kernel) rfl fun x7 => ?_
  refine z_icmp_lt (off := 7) (t := 43) (q := 39) (by decide +kernel) (by decide) rfl ?_ ?_
  · refine z_bipush (n := (-9)) (v := (-9)) (q := 45) (by decide +kernel) rfl (by decide) ?_
    refine zsub [] rfl ?_
    exact sj_X5_starts_45 g l v0 (13 + v1) ((-9))
  · refine z_iconst (n := 0) (v := 0) (q := 40) (by decide +kernel) rfl (by decide) ?_
    refine z_goto (off := 5) (t := 45) (by decide +kernel) (by decide) ?_
    refine zsub [] rfl ?_
    exact sj_X5_starts_45 g l v0 (13 + v1) 0
theorem rc_X5_starts (v0 : Nat) (v1 : Int32) (v2 : Int32) (v3 : Int32) : ∀ h x, dn_X5_starts v0 v1 v2 v3 h = some x → ∃ fs, zgO 5 v0 h = some fs := fun h x hd => by
  obtain ⟨fs, e, -⟩ := Option.bind_eq_some_iff.mp hd
  exact ⟨fs, e⟩
def jn_X5_begins_53 : zAH → Option (Unit × zAH) := fun h => some ((), h)
theorem sj_X5_begins_53 (g : zG) (l : Launch) : zSm g l cX5_begins 2 RX5 "begins" none 2 45 zrV 53 [] [] (jn_X5_begins_53) := by
  unfold jn_X5_begins_53
  exact z_vret (by decide +kernel)
def lb_X5_begins_22 (v0 : Nat) (rec : (Int32) → zAH → Option (Unit × zAH)) (s : Int32) : zAH → Option (Unit × zAH) := fun h => (zgI 5 12 v0 h).bind fun x1 => if s < x1 then (zgA 5 14 v0 h).bind fun x2 => (zaI 0 x2 s h).bind fun x3 => (zgA 5 15 v0 h).bind fun x4 => (zaI 0 x4 s h).bind fun x5 => zbd (dn_X5_starts v0 s x3 x5 h) fun x6 h7 => rec (s + 1) h7 else jn_X5_begins_53 h
def lp_X5_begins_22 (v0 : Nat) (s : Int32) : zAH → Option (Unit × zAH) := zlp (lb_X5_begins_22 v0) 2000 s
theorem sl_X5_begins_22 (g : zG) (l : Launch) (v0 : Nat) (s : Int32) : zSm g l cX5_begins 2 RX5 "begins" none 2 45 zrV 22 [(0, .ref v0), (1, .int s)] [] (lp_X5_begins_22 v0 s) := by
  unfold lp_X5_begins_22
  refine z_loop (lvf := fun s => [(0, .ref v0), (1, .int s)]) (fun rec hrec s => ?_) 2000 s
  unfold lb_X5_begins_22
  refine z_iload_n (j := 1) (q := 23) (by decide +kernel) rfl 1 rfl ?_
  refine z_aload_n (j := 0) (q := 24) (by decide +kernel) rfl 0 rfl ?_
  refine z_getI (q := 27) zf_RX5_147 (by decide +kernel) rfl fun x1 => ?_
  refine z_icmp_ge (off := 26) (t := 53) (q := 30) (by decide +kernel) (by decide) rfl ?_ ?_
  · refine zsub [] rfl ?_
    exact sj_X5_begins_53 g l 
  · refine z_aload_n (j := 0) (q := 31) (by decide +kernel) rfl 0 rfl ?_
    refine z_iload_n (j := 1) (q := 32) (by decide +kernel) rfl 1 rfl ?_
    refine z_aload_n (j := 0) (q := 33) (by decide +kernel) rfl 0 rfl ?_
    refine z_getA (q := 36) zf_RX5_35 (by decide +kernel) rfl fun x2 => ?_
    refine z_iload_n (j := 1) (q := 37) (by decide +kernel) rfl 1 rfl ?_
    refine z_iald (q := 38) (Or.inl ⟨rfl, rfl⟩) (by decide +kernel) rfl fun x3 => ?_
    refine z_aload_n (j := 0) (q := 39) (by decide +kernel) rfl 0 rfl ?_
    refine z_getA (q := 42) zf_RX5_38 (by decide +kernel) rfl fun x4 => ?_
    refine z_iload_n (j := 1) (q := 43) (by decide +kernel) rfl 1 rfl ?_
    refine z_iald (q := 44) (Or.inl ⟨rfl, rfl⟩) (by decide +kernel) rfl fun x5 => ?_
    refine z_callVU (As := [.int s, .int x3, .int x5]) (st := []) (q := 47) (ct_X5_starts g l v0 s x3 x5) zm_RX5_186 (rc_X5_starts v0 s x3 x5) rfl (by decide) (by decide) (Nat.le_of_ble_eq_true rfl) rfl (by decide +kernel) rfl fun x6 => ?_
    refine z_iinc (j := 1) (n := 1) (v := 1) (q := 50) (by decide +kernel) rfl 1 rfl (by decide) (by decide) rfl ?_
    refine z_goto (off := (-28)) (t := 22) (by decide +kernel) (by decide) ?_
    refine zsub [1, 0] rfl ?_
    exact hrec (s + 1)
def jn_X5_begins_20 (v0 : Nat) : zAH → Option (Unit × zAH) := fun h => lp_X5_begins_22 v0 0 h
theorem sj_X5_begins_20 (g : zG) (l : Launch) (v0 : Nat) : zSm g l cX5_begins 2 RX5 "begins" none 2 45 zrV 20 [(0, .ref v0)] [] (jn_X5_begins_20 v0) := by
  unfold jn_X5_begins_20
  refine z_iconst (n := 0) (v := 0) (q := 21) (by decide +kernel) rfl (by decide) ?_
  refine z_istore_n (j := 1) (q := 22) (by decide +kernel) rfl (by decide) rfl ?_
  refine zsub [1, 0] rfl ?_
  exact sl_X5_begins_22 g l v0 0
def lb_X5_begins_2 (v0 : Nat) (rec : (Int32) → zAH → Option (Unit × zAH)) (s : Int32) : zAH → Option (Unit × zAH) := fun h => if s < 33 then zbd (dn_X5_put_ v0 s 0 h) fun x1 h2 => rec (s + 1) h2 else jn_X5_begins_20 v0 h
def lp_X5_begins_2 (v0 : Nat) (s : Int32) : zAH → Option (Unit × zAH) := zlp (lb_X5_begins_2 v0) 2000 s
theorem sl_X5_begins_2 (g : zG) (l : Launch) (v0 : Nat) (s : Int32) : zSm g l cX5_begins 2 RX5 "begins" none 2 45 zrV 2 [(0, .ref v0), (1, .int s)] [] (lp_X5_begins_2 v0 s) := by
  unfold lp_X5_begins_2
  refine z_loop (lvf := fun s => [(0, .ref v0), (1, .int s)]) (fun rec hrec s => ?_) 2000 s
  unfold lb_X5_begins_2
  refine z_iload_n (j := 1) (q := 3) (by decide +kernel) rfl 1 rfl ?_
  refine z_bipush (n := 33) (v := 33) (q := 5) (by decide +kernel) rfl (by decide) ?_
  refine z_icmp_ge (off := 15) (t := 20) (q := 8) (by decide +kernel) (by decide) rfl ?_ ?_
  · refine zsub [0] rfl ?_
    exact sj_X5_begins_20 g l v0
  · refine z_aload_n (j := 0) (q := 9) (by decide +kernel) rfl 0 rfl ?_
    refine z_iload_n (j := 1) (q := 10) (by decide +kernel) rfl 1 rfl ?_
    refine z_iconst (n := 0) (v := 0) (q := 11) (by decide +kernel) rfl (by decide) ?_
    refine z_callVU (As := [.int s, .int 0]) (st := []) (q := 14) (ct_X5_put_ g l v0 s 0) zm_RX5_182 (rc_X5_put_ v0 s 0) rfl (by decide) (by decide) (Nat.le_of_ble_eq_true rfl) rfl (by decide +kernel) rfl fun x1 => ?_
    refine z_iinc (j := 1) (n := 1) (v := 1) (q := 17) (by decide +kernel) rfl 1 rfl (by decide) (by decide) rfl ?_
    refine z_goto (off := (-15)) (t := 2) (by decide +kernel) (by decide) ?_
    refine zsub [1, 0] rfl ?_
    exact hrec (s + 1)
def dn_X5_begins (v0 : Nat) : zAH → Option (Unit × zAH) := fun h => (zgO 5 v0 h).bind fun _ => lp_X5_begins_2 v0 0 h
theorem ct_X5_begins (g : zG) (l : Launch) (v0 : Nat) : zCt g l yX5_begins cX5_begins 2 none 2 45 zrV [.ref v0] (dn_X5_begins v0) := by
  refine zCt_of (lv := [(0, .ref v0)]) (by decide +kernel) (Nat.le_of_ble_eq_true rfl) rfl ?_
  show zSm g l cX5_begins 2 RX5 "begins" none 2 45 zrV 0 [(0, .ref v0)] [] (dn_X5_begins v0)
  unfold dn_X5_begins
  refine z_rec ?_
  refine z_iconst (n := 0) (v := 0) (q := 1) (by decide +kernel) rfl (by decide) ?_
  refine z_istore_n (j := 1) (q := 2) (by decide +kernel) rfl (by decide) rfl ?_
  refine zsub [1, 0] rfl ?_
  exact sl_X5_begins_2 g l v0 0
theorem rc_X5_begins (v0 : Nat) : ∀ h x, dn_X5_begins v0 h = some x → ∃ fs, zgO 5 v0 h = some fs := fun h x hd => by
  obtain ⟨fs, e, -⟩ := Option.bind_eq_some_iff.mp hd
  exact ⟨fs, e⟩
def jn_X5_hill_175 (kc88 : Int32 → zAH → Option (Int32 × zAH)) (v0 : Nat) (v2 : Int32) : zAH → Option (Int32 × zAH) := fun h => kc88 (v2 + 1) h
theorem sj_X5_hill_175 (g : zG) (l : Launch) (kc88 : Int32 → zAH → Option (Int32 × zAH)) (v0 : Nat) (v2 : Int32) (hkc88 : ∀ s, zSm g l cX5_hill 4 RX5 "hill" (some .int) 3 67 zrI 88 [(0, .ref v0), (2, .int s)] [] (kc88 s)) : zSm g l cX5_hill 4 RX5 "hill" (some .int) 3 67 zrI 175 [(0, .ref v0), (2, .int v2)] [] (jn_X5_hill_175 kc88 v0 v2) := by
  unfold jn_X5_hill_175
  refine z_iinc (j := 2) (n := 1) (v := 1) (q := 178) (by decide +kernel) rfl 1 rfl (by decide) (by decide) rfl ?_
  refine z_goto (off := (-90)) (t := 88) (by decide +kernel) (by decide) ?_
  refine zsub [1, 0] rfl ?_
  exact hkc88 (v2 + 1)
def lb_X5_hill_141 (kc88 : Int32 → zAH → Option (Int32 × zAH)) (v0 : Nat) (v2 : Int32) (rec : (Int32) → zAH → Option (Int32 × zAH)) (s : Int32) : zAH → Option (Int32 × zAH) := fun h => if s < 8 then (zgA 5 17 v0 h).bind fun x1 => (zgA 5 26 v0 h).bind fun x2 => (zaI 0 x2 ((8 * v2) + s) h).bind fun x3 => (zaS 0 x1 ((8 * v2) + s) x3 h).bind fun h4 => rec (s + 1) h4 else jn_X5_hill_175 kc88 v0 v2 h
def lp_X5_hill_141 (kc88 : Int32 → zAH → Option (Int32 × zAH)) (v0 : Nat) (v2 : Int32) (s : Int32) : zAH → Option (Int32 × zAH) := zlp (lb_X5_hill_141 kc88 v0 v2) 2000 s
theorem sl_X5_hill_141 (g : zG) (l : Launch) (kc88 : Int32 → zAH → Option (Int32 × zAH)) (v0 : Nat) (v2 : Int32) (hkc88 : ∀ s, zSm g l cX5_hill 4 RX5 "hill" (some .int) 3 67 zrI 88 [(0, .ref v0), (2, .int s)] [] (kc88 s)) (s : Int32) : zSm g l cX5_hill 4 RX5 "hill" (some .int) 3 67 zrI 141 [(0, .ref v0), (2, .int v2), (3, .int s)] [] (lp_X5_hill_141 kc88 v0 v2 s) := by
  unfold lp_X5_hill_141
  refine z_loop (lvf := fun s => [(0, .ref v0), (2, .int v2), (3, .int s)]) (fun rec hrec s => ?_) 2000 s
  unfold lb_X5_hill_141
  refine z_iload_n (j := 3) (q := 142) (by decide +kernel) rfl 2 rfl ?_
  refine z_bipush (n := 8) (v := 8) (q := 144) (by decide +kernel) rfl (by decide) ?_
  refine z_icmp_ge (off := 31) (t := 175) (q := 147) (by decide +kernel) (by decide) rfl ?_ ?_
  · refine zsub [0, 1] rfl ?_
    exact sj_X5_hill_175 g l kc88 v0 v2 hkc88
  · refine z_aload_n (j := 0) (q := 148) (by decide +kernel) rfl 0 rfl ?_
    refine z_getA (q := 151) zf_RX5_44 (by decide +kernel) rfl fun x1 => ?_
    refine z_bipush (n := 8) (v := 8) (q := 153) (by decide +kernel) rfl (by decide) ?_
    refine z_iload_n (j := 2) (q := 154) (by decide +kernel) rfl 1 rfl ?_
    refine z_imul (q := 155) (by decide +kernel) rfl ?_
    refine z_iload_n (j := 3) (q := 156) (by decide +kernel) rfl 2 rfl ?_
    refine z_iadd (q := 157) (by decide +kernel) rfl ?_
    refine z_aload_n (j := 0) (q := 158) (by decide +kernel) rfl 0 rfl ?_
    refine z_getA (q := 161) zf_RX5_59 (by decide +kernel) rfl fun x2 => ?_
    refine z_bipush (n := 8) (v := 8) (q := 163) (by decide +kernel) rfl (by decide) ?_
    refine z_iload_n (j := 2) (q := 164) (by decide +kernel) rfl 1 rfl ?_
    refine z_imul (q := 165) (by decide +kernel) rfl ?_
    refine z_iload_n (j := 3) (q := 166) (by decide +kernel) rfl 2 rfl ?_
    refine z_iadd (q := 167) (by decide +kernel) rfl ?_
    refine z_iald (q := 168) (Or.inl ⟨rfl, rfl⟩) (by decide +kernel) rfl fun x3 => ?_
    refine z_iast (q := 169) (Or.inl ⟨rfl, rfl, rfl⟩) (by decide +kernel) rfl ?_
    refine z_iinc (j := 3) (n := 1) (v := 1) (q := 172) (by decide +kernel) rfl 2 rfl (by decide) (by decide) rfl ?_
    refine z_goto (off := (-31)) (t := 141) (by decide +kernel) (by decide) ?_
    refine zsub [1, 2, 0] rfl ?_
    exact hrec (s + 1)
def jn_X5_hill_201 (v0 : Nat) : zAH → Option (Int32 × zAH) := fun h => zbd (dn_X5_look v0 0 h) fun x1 h2 => zbd (dn_X5_begins v0 h2) fun x3 h4 => (zgI 5 12 v0 h4).bind fun x5 => some (x5, h4)
theorem sj_X5_hill_201 (g : zG) (l : Launch) (v0 : Nat) : zSm g l cX5_hill 4 RX5 "hill" (some .int) 3 67 zrI 201 [(0, .ref v0)] [] (jn_X5_hill_201 v0) := by
  unfold jn_X5_hill_201
  refine z_aload_n (j := 0) (q := 202) (by decide +kernel) rfl 0 rfl ?_
  refine z_iconst (n := 0) (v := 0) (q := 203) (by decide +kernel) rfl (by decide) ?_
  refine z_callVU (As := [.int 0]) (st := []) (q := 206) (ct_X5_look g l v0 0) zm_RX5_153 (rc_X5_look v0 0) rfl (by decide) (by decide) (Nat.le_of_ble_eq_true rfl) rfl (by decide +kernel) rfl fun x1 => ?_
  refine z_aload_n (j := 0) (q := 207) (by decide +kernel) rfl 0 rfl ?_
  refine z_callVU (As := []) (st := []) (q := 210) (ct_X5_begins g l v0) zm_RX5_157 (rc_X5_begins v0) rfl (by decide) (by decide) (Nat.le_of_ble_eq_true rfl) rfl (by decide +kernel) rfl fun x3 => ?_
  refine z_aload_n (j := 0) (q := 211) (by decide +kernel) rfl 0 rfl ?_
  refine z_getI (q := 214) zf_RX5_147 (by decide +kernel) rfl fun x5 => ?_
  exact z_iret (by decide +kernel)
def lb_X5_hill_183 (v0 : Nat) (rec : (Int32) → zAH → Option (Int32 × zAH)) (s : Int32) : zAH → Option (Int32 × zAH) := fun h => if s < 4 then (zgA 5 27 v0 h).bind fun x1 => (zaS 2 x1 s (0 &&& 1) h).bind fun h2 => rec (s + 1) h2 else jn_X5_hill_201 v0 h
def lp_X5_hill_183 (v0 : Nat) (s : Int32) : zAH → Option (Int32 × zAH) := zlp (lb_X5_hill_183 v0) 2000 s
theorem sl_X5_hill_183 (g : zG) (l : Launch) (v0 : Nat) (s : Int32) : zSm g l cX5_hill 4 RX5 "hill" (some .int) 3 67 zrI 183 [(0, .ref v0), (2, .int s)] [] (lp_X5_hill_183 v0 s) := by
  unfold lp_X5_hill_183
  refine z_loop (lvf := fun s => [(0, .ref v0), (2, .int s)]) (fun rec hrec s => ?_) 2000 s
  unfold lb_X5_hill_183
  refine z_iload_n (j := 2) (q := 184) (by decide +kernel) rfl 1 rfl ?_
  refine z_iconst (n := 4) (v := 4) (q := 185) (by decide +kernel) rfl (by decide) ?_
  refine z_icmp_ge (off := 16) (t := 201) (q := 188) (by decide +kernel) (by decide) rfl ?_ ?_
  · refine zsub [0] rfl ?_
    exact sj_X5_hill_201 g l v0
  · refine z_aload_n (j := 0) (q := 189) (by decide +kernel) rfl 0 rfl ?_
    refine z_getA (q := 192) zf_RX5_62 (by decide +kernel) rfl fun x1 => ?_
    refine z_iload_n (j := 2) (q := 193) (by decide +kernel) rfl 1 rfl ?_
    refine z_iconst (n := 0) (v := 0) (q := 194) (by decide +kernel) rfl (by decide) ?_
    refine z_iast (q := 195) (Or.inr (Or.inr ⟨rfl, rfl, rfl⟩)) (by decide +kernel) rfl ?_
    refine z_iinc (j := 2) (n := 1) (v := 1) (q := 198) (by decide +kernel) rfl 1 rfl (by decide) (by decide) rfl ?_
    refine z_goto (off := (-15)) (t := 183) (by decide +kernel) (by decide) ?_
    refine zsub [1, 0] rfl ?_
    exact hrec (s + 1)
def jn_X5_hill_181 (v0 : Nat) : zAH → Option (Int32 × zAH) := fun h => lp_X5_hill_183 v0 1 h
theorem sj_X5_hill_181 (g : zG) (l : Launch) (v0 : Nat) : zSm g l cX5_hill 4 RX5 "hill" (some .int) 3 67 zrI 181 [(0, .ref v0)] [] (jn_X5_hill_181 v0) := by
  unfold jn_X5_hill_181
  refine z_iconst (n := 1) (v := 1) (q := 182) (by decide +kernel) rfl (by decide) ?_
  refine z_istore_n (j := 2) (q := 183) (by decide +kernel) rfl (by decide) rfl ?_
  refine zsub [1, 0] rfl ?_
  exact sl_X5_hill_183 g l v0 1
def lb_X5_hill_88 (v0 : Nat) (rec : (Int32) → zAH → Option (Int32 × zAH)) (s : Int32) : zAH → Option (Int32 × zAH) := fun h => (zgI 5 12 v0 h).bind fun x1 => if s < x1 then (zgA 5 13 v0 h).bind fun x2 => (zgA 5 23 v0 h).bind fun x3 => (zaI 0 x3 s h).bind fun x4 => (zaS 0 x2 s x4 h).bind fun h5 => (zgA 5 14 v0 h5).bind fun x6 => (zgA 5 24 v0 h5).bind fun x7 => (zaI 0 x7 s h5).bind fun x8 => (zaS 0 x6 s x8 h5).bind fun h9 => (zgA 5 15 v0 h9).bind fun x10 => (zaS 0 x10 s 0 h9).bind fun h11 => (zgA 5 16 v0 h11).bind fun x12 => (zgA 5 25 v0 h11).bind fun x13 => (zaI 0 x13 s h11).bind fun x14 => (zaS 0 x12 s x14 h11).bind fun h15 => lp_X5_hill_141 rec v0 s 0 h15 else jn_X5_hill_181 v0 h
def lp_X5_hill_88 (v0 : Nat) (s : Int32) : zAH → Option (Int32 × zAH) := zlp (lb_X5_hill_88 v0) 2000 s
theorem sl_X5_hill_88 (g : zG) (l : Launch) (v0 : Nat) (s : Int32) : zSm g l cX5_hill 4 RX5 "hill" (some .int) 3 67 zrI 88 [(0, .ref v0), (2, .int s)] [] (lp_X5_hill_88 v0 s) := by
  unfold lp_X5_hill_88
  refine z_loop (lvf := fun s => [(0, .ref v0), (2, .int s)]) (fun rec hrec s => ?_) 2000 s
  unfold lb_X5_hill_88
  refine z_iload_n (j := 2) (q := 89) (by decide +kernel) rfl 1 rfl ?_
  refine z_aload_n (j := 0) (q := 90) (by decide +kernel) rfl 0 rfl ?_
  refine z_getI (q := 93) zf_RX5_147 (by decide +kernel) rfl fun x1 => ?_
  refine z_icmp_ge (off := 88) (t := 181) (q := 96) (by decide +kernel) (by decide) rfl ?_ ?_
  · refine zsub [0] rfl ?_
    exact sj_X5_hill_181 g l v0
  · refine z_aload_n (j := 0) (q := 97) (by decide +kernel) rfl 0 rfl ?_
    refine z_getA (q := 100) zf_RX5_32 (by decide +kernel) rfl fun x2 => ?_
    refine z_iload_n (j := 2) (q := 101) (by decide +kernel) rfl 1 rfl ?_
    refine z_aload_n (j := 0) (q := 102) (by decide +kernel) rfl 0 rfl ?_
    refine z_getA (q := 105) zf_RX5_50 (by decide +kernel) rfl fun x3 => ?_
    refine z_iload_n (j := 2) (q := 106) (by decide +kernel) rfl 1 rfl ?_
    refine z_iald (q := 107) (Or.inl ⟨rfl, rfl⟩) (by decide +kernel) rfl fun x4 => ?_
    refine z_iast (q := 108) (Or.inl ⟨rfl, rfl, rfl⟩) (by decide +kernel) rfl ?_
    refine z_aload_n (j := 0) (q := 109) (by decide +kernel) rfl 0 rfl ?_
    refine z_getA (q := 112) zf_RX5_35 (by decide +kernel) rfl fun x6 => ?_
    refine z_iload_n (j := 2) (q := 113) (by decide +kernel) rfl 1 rfl ?_
    refine z_aload_n (j := 0) (q := 114) (by decide +kernel) rfl 0 rfl ?_
    refine z_getA (q := 117) zf_RX5_53 (by decide +kernel) rfl fun x7 => ?_
    refine z_iload_n (j := 2) (q := 118) (by decide +kernel) rfl 1 rfl ?_
    refine z_iald (q := 119) (Or.inl ⟨rfl, rfl⟩) (by decide +kernel) rfl fun x8 => ?_
    refine z_iast (q := 120) (Or.inl ⟨rfl, rfl, rfl⟩) (by decide +kernel) rfl ?_
    refine z_aload_n (j := 0) (q := 121) (by decide +kernel) rfl 0 rfl ?_
    refine z_getA (q := 124) zf_RX5_38 (by decide +kernel) rfl fun x10 => ?_
    refine z_iload_n (j := 2) (q := 125) (by decide +kernel) rfl 1 rfl ?_
    refine z_iconst (n := 0) (v := 0) (q := 126) (by decide +kernel) rfl (by decide) ?_
    refine z_iast (q := 127) (Or.inl ⟨rfl, rfl, rfl⟩) (by decide +kernel) rfl ?_
    refine z_aload_n (j := 0) (q := 128) (by decide +kernel) rfl 0 rfl ?_
    refine z_getA (q := 131) zf_RX5_41 (by decide +kernel) rfl fun x12 => ?_
    refine z_iload_n (j := 2) (q := 132) (by decide +kernel) rfl 1 rfl ?_
    refine z_aload_n (j := 0) (q := 133) (by decide +kernel) rfl 0 rfl ?_
    refine z_getA (q := 136) zf_RX5_56 (by decide +kernel) rfl fun x13 => ?_
    refine z_iload_n (j := 2) (q := 137) (by decide +kernel) rfl 1 rfl ?_
    refine z_iald (q := 138) (Or.inl ⟨rfl, rfl⟩) (by decide +kernel) rfl fun x14 => ?_
    refine z_iast (q := 139) (Or.inl ⟨rfl, rfl, rfl⟩) (by decide +kernel) rfl ?_
    refine z_iconst (n := 0) (v := 0) (q := 140) (by decide +kernel) rfl (by decide) ?_
    refine z_istore_n (j := 3) (q := 141) (by decide +kernel) rfl (by decide) rfl ?_
    refine zsub [1, 2, 0] rfl ?_
    exact sl_X5_hill_141 g l rec v0 s hrec 0
def jn_X5_hill_86 (v0 : Nat) : zAH → Option (Int32 × zAH) := fun h => lp_X5_hill_88 v0 0 h
theorem sj_X5_hill_86 (g : zG) (l : Launch) (v0 : Nat) : zSm g l cX5_hill 4 RX5 "hill" (some .int) 3 67 zrI 86 [(0, .ref v0)] [] (jn_X5_hill_86 v0) := by
  unfold jn_X5_hill_86
  refine z_iconst (n := 0) (v := 0) (q := 87) (by decide +kernel) rfl (by decide) ?_
  refine z_istore_n (j := 2) (q := 88) (by decide +kernel) rfl (by decide) rfl ?_
  refine zsub [1, 0] rfl ?_
  exact sl_X5_hill_88 g l v0 0
def lb_X5_hill_60 (v0 : Nat) (rec : (Int32) → zAH → Option (Int32 × zAH)) (s : Int32) : zAH → Option (Int32 × zAH) := fun h => (zgI 5 10 v0 h).bind fun x1 => if s < x1 then (zgA 5 11 v0 h).bind fun x2 => (zgA 5 22 v0 h).bind fun x3 => (zaI 0 x3 s h).bind fun x4 => (zaS 0 x2 s x4 h).bind fun h5 => rec (s + 1) h5 else jn_X5_hill_86 v0 h
def lp_X5_hill_60 (v0 : Nat) (s : Int32) : zAH → Option (Int32 × zAH) := zlp (lb_X5_hill_60 v0) 2000 s
theorem sl_X5_hill_60 (g : zG) (l : Launch) (v0 : Nat) (s : Int32) : zSm g l cX5_hill 4 RX5 "hill" (some .int) 3 67 zrI 60 [(0, .ref v0), (2, .int s)] [] (lp_X5_hill_60 v0 s) := by
  unfold lp_X5_hill_60
  refine z_loop (lvf := fun s => [(0, .ref v0), (2, .int s)]) (fun rec hrec s => ?_) 2000 s
  unfold lb_X5_hill_60
  refine z_iload_n (j := 2) (q := 61) (by decide +kernel) rfl 1 rfl ?_
  refine z_aload_n (j := 0) (q := 62) (by decide +kernel) rfl 0 rfl ?_
  refine z_getI (q := 65) zf_RX5_144 (by decide +kernel) rfl fun x1 => ?_
  refine z_icmp_ge (off := 21) (t := 86) (q := 68) (by decide +kernel) (by decide) rfl ?_ ?_
  · refine zsub [0] rfl ?_
    exact sj_X5_hill_86 g l v0
  · refine z_aload_n (j := 0) (q := 69) (by decide +kernel) rfl 0 rfl ?_
    refine z_getA (q := 72) zf_RX5_29 (by decide +kernel) rfl fun x2 => ?_
    refine z_iload_n (j := 2) (q := 73) (by decide +kernel) rfl 1 rfl ?_
    refine z_aload_n (j := 0) (q := 74) (by decide +kernel) rfl 0 rfl ?_
    refine z_getA (q := 77) zf_RX5_47 (by decide +kernel) rfl fun x3 => ?_
    refine z_iload_n (j := 2) (q := 78) (by decide +kernel) rfl 1 rfl ?_
    refine z_iald (q := 79) (Or.inl ⟨rfl, rfl⟩) (by decide +kernel) rfl fun x4 => ?_
    refine z_iast (q := 80) (Or.inl ⟨rfl, rfl, rfl⟩) (by decide +kernel) rfl ?_
    refine z_iinc (j := 2) (n := 1) (v := 1) (q := 83) (by decide +kernel) rfl 1 rfl (by decide) (by decide) rfl ?_
    refine z_goto (off := (-23)) (t := 60) (by decide +kernel) (by decide) ?_
    refine zsub [1, 0] rfl ?_
    exact hrec (s + 1)
def dn_X5_hill (v0 : Nat) (v1 : Int32) : zAH → Option (Int32 × zAH) := fun h => (zgO 5 v0 h).bind fun _ => zbd (dn_X5_isText v1 h) fun x1 h2 => if x1 = 0 then some ((-1), h2) else (zgA 5 8 v0 h2).bind fun x3 => (zaI 0 x3 v1 h2).bind fun x4 => if x4 < 0 then zbd (dn_X5_meets v0 1 h2) fun x12 h13 => some (x12, h13) else zbd (dn_X5_faultOf v0 v1 h2) fun x5 h6 => if x5 = ((-9)) then (zgI 5 20 v0 h6).bind fun x7 => (zpF 5 10 v0 (.int x7) h6).bind fun h8 => (zgI 5 21 v0 h8).bind fun x9 => (zpF 5 12 v0 (.int x9) h8).bind fun h10 => (zpF 5 18 v0 (.int 0) h10).bind fun h11 => lp_X5_hill_60 v0 0 h11 else some ((-4), h6)
theorem ct_X5_hill (g : zG) (l : Launch) (v0 : Nat) (v1 : Int32) : zCt g l yX5_hill cX5_hill 4 (some .int) 3 67 zrI [.ref v0, .int v1] (dn_X5_hill v0 v1) := by
  refine zCt_of (lv := [(0, .ref v0), (1, .int v1)]) (by decide +kernel) (Nat.le_of_ble_eq_true rfl) rfl ?_
  show zSm g l cX5_hill 4 RX5 "hill" (some .int) 3 67 zrI 0 [(0, .ref v0), (1, .int v1)] [] (dn_X5_hill v0 v1)
  unfold dn_X5_hill
  refine z_rec ?_
  refine z_iload_n (j := 1) (q := 1) (by decide +kernel) rfl 1 rfl ?_
  refine z_callSI (As := [.int v1]) (st := []) (q := 4) (ct_X5_isText g l v1) zm_RX5_111 rfl (by decide) (by decide) (Nat.le_of_ble_eq_true rfl) rfl (by decide +kernel) rfl fun x1 => ?_
  refine z_if_ne (off := 5) (t := 9) (q := 7) (by decide +kernel) (by decide) rfl ?_ ?_
  · refine z_aload_n (j := 0) (q := 10) (by decide +kernel) rfl 0 rfl ?_
    refine z_getA (q := 13) zf_RX5_22 (by decide +kernel) rfl fun x3 => ?_
    refine z_iload_n (j := 1) (q := 14) (by decide +kernel) rfl 1 rfl ?_
    refine z_iald (q := 15) (Or.inl ⟨rfl, rfl⟩) (by decide +kernel) rfl fun x4 => ?_
    refine z_if_ge (off := 9) (t := 24) (q := 18) (by decide +kernel) (by decide) rfl ?_ ?_
    · refine z_aload_n (j := 0) (q := 25) (by decide +kernel) rfl 0 rfl ?_
      refine z_iload_n (j := 1) (q := 26) (by decide +kernel) rfl 1 rfl ?_
      refine z_callVI (As := [.int v1]) (st := []) (q := 29) (ct_X5_faultOf g l v0 v1) zm_RX5_141 (rc_X5_faultOf v0 v1) rfl (by decide) (by decide) (Nat.le_of_ble_eq_true rfl) rfl (by decide +kernel) rfl fun x5 => ?_
      refine z_bipush (n := (-9)) (v := (-9)) (q := 31) (by decide +kernel) rfl (by decide) ?_
      refine z_icmp_eq (off := 6) (t := 37) (q := 34) (by decide +kernel) (by decide) rfl ?_ ?_
      · refine z_aload_n (j := 0) (q := 38) (by decide +kernel) rfl 0 rfl ?_
        refine z_aload_n (j := 0) (q := 39) (by decide +kernel) rfl 0 rfl ?_
        refine z_getI (q := 42) zf_RX5_120 (by decide +kernel) rfl fun x7 => ?_
        refine z_putV (q := 45) zp_RX5_144 (fun z => by cases z) rfl rfl (by decide +kernel) rfl ?_
        refine z_aload_n (j := 0) (q := 46) (by decide +kernel) rfl 0 rfl ?_
        refine z_aload_n (j := 0) (q := 47) (by decide +kernel) rfl 0 rfl ?_
        refine z_getI (q := 50) zf_RX5_129 (by decide +kernel) rfl fun x9 => ?_
        refine z_putV (q := 53) zp_RX5_147 (fun z => by cases z) rfl rfl (by decide +kernel) rfl ?_
        refine z_aload_n (j := 0) (q := 54) (by decide +kernel) rfl 0 rfl ?_
        refine z_iconst (n := 0) (v := 0) (q := 55) (by decide +kernel) rfl (by decide) ?_
        refine z_putV (q := 58) zp_RX5_150 (fun z => by cases z) rfl rfl (by decide +kernel) rfl ?_
        refine z_iconst (n := 0) (v := 0) (q := 59) (by decide +kernel) rfl (by decide) ?_
        refine z_istore_n (j := 2) (q := 60) (by decide +kernel) rfl (by decide) rfl ?_
        refine zsub [1, 0] rfl ?_
        exact sl_X5_hill_60 g l v0 0
      · refine z_bipush (n := (-4)) (v := (-4)) (q := 36) (by decide +kernel) rfl (by decide) ?_
        exact z_iret (by decide +kernel)
    · refine z_aload_n (j := 0) (q := 19) (by decide +kernel) rfl 0 rfl ?_
      refine z_iconst (n := 1) (v := 1) (q := 20) (by decide +kernel) rfl (by decide) ?_
      refine z_callVI (As := [.int 1]) (st := []) (q := 23) (ct_X5_meets g l v0 1) zm_RX5_100 (rc_X5_meets v0 1) rfl (by decide) (by decide) (Nat.le_of_ble_eq_true rfl) rfl (by decide +kernel) rfl fun x12 => ?_
      exact z_iret (by decide +kernel)
  · refine z_iconst (n := (-1)) (v := (-1)) (q := 8) (by decide +kernel) rfl (by decide) ?_
    exact z_iret (by decide +kernel)
theorem rc_X5_hill (v0 : Nat) (v1 : Int32) : ∀ h x, dn_X5_hill v0 v1 h = some x → ∃ fs, zgO 5 v0 h = some fs := fun h x hd => by
  obtain ⟨fs, e, -⟩ := Option.bind_eq_some_iff.mp hd
  exact ⟨fs, e⟩
def dn_X5_isRunner (v0 : Nat) (v1 : Int32) : zAH → Option (Int32 × zAH) := fun h => (zgO 5 v0 h).bind fun _ => (zgI 5 12 v0 h).bind fun x1 => zbd (dn_X5_in v1 0 (x1 - 1) h) fun x2 h3 => if x2 = 0 ∨ x2 = 1 then some (x2, h3) else none
theorem ct_X5_isRunner (g : zG) (l : Launch) (v0 : Nat) (v1 : Int32) : zCt g l yX5_isRunner cX5_isRunner 2 (some .boolean) 1 22 zrI [.ref v0, .int v1] (dn_X5_isRunner v0 v1) := by
  refine zCt_of (lv := [(0, .ref v0), (1, .int v1)]) (by decide +kernel) (Nat.le_of_ble_eq_true rfl) rfl ?_
  show zSm g l cX5_isRunner 2 RX5 "isRunner" (some .boolean) 1 22 zrI 0 [(0, .ref v0), (1, .int v1)] [] (dn_X5_isRunner v0 v1)
  unfold dn_X5_isRunner
  refine z_rec ?_
  refine z_iload_n (j := 1) (q := 1) (by decide +kernel) rfl 1 rfl ?_
  refine z_iconst (n := 0) (v := 0) (q := 2) (by decide +kernel) rfl (by decide) ?_
  refine z_aload_n (j := 0) (q := 3) (by decide +kernel) rfl 0 rfl ?_
  refine z_getI (q := 6) zf_RX5_147 (by decide +kernel) rfl fun x1 => ?_
  refine z_iconst (n := 1) (v := 1) (q := 7) (by decide +kernel) rfl (by decide) ?_
  refine z_isub (q := 8) (by decide +kernel) rfl ?_
  refine z_callSI (As := [.int v1, .int 0, .int (x1 - 1)]) (st := []) (q := 11) (ct_X5_in g l v1 0 (x1 - 1)) zm_RX5_86 rfl (by decide) (by decide) (Nat.le_of_ble_eq_true rfl) rfl (by decide +kernel) rfl fun x2 => ?_
  exact z_zret (by decide +kernel)
theorem rc_X5_isRunner (v0 : Nat) (v1 : Int32) : ∀ h x, dn_X5_isRunner v0 v1 h = some x → ∃ fs, zgO 5 v0 h = some fs := fun h x hd => by
  obtain ⟨fs, e, -⟩ := Option.bind_eq_some_iff.mp hd
  exact ⟨fs, e⟩
def jn_X5_road_39 (w0 : Int32) : zAH → Option (Int32 × zAH) := fun h => some (w0, h)
theorem sj_X5_road_39 (g : zG) (l : Launch) (w0 : Int32) : zSm g l cX5_road 2 RX5 "road" (some .int) 1 22 zrI 39 [] [.int w0] (jn_X5_road_39 w0) := by
  unfold jn_X5_road_39
  exact z_iret (by decide +kernel)
def dn_X5_road (v0 : Nat) (v1 : Int32) : zAH → Option (Int32 × zAH) := fun h => (zgO 5 v0 h).bind fun _ => zbd (dn_X5_in v1 0 39 h) fun x1 h2 => if x1 = 0 then some ((-1), h2) else (zgI 5 10 v0 h2).bind fun x3 => if v1 < x3 then (zgA 5 11 v0 h2).bind fun x6 => (zaI 0 x6 v1 h2).bind fun x7 => zbd (dn_X5_tells v0 x7 1 h2) fun x8 h9 => jn_X5_road_39 x8 h9 else zbd (dn_X5_meets v0 2 h2) fun x4 h5 => jn_X5_road_39 x4 h5
theorem ct_X5_road (g : zG) (l : Launch) (v0 : Nat) (v1 : Int32) : zCt g l yX5_road cX5_road 2 (some .int) 1 22 zrI [.ref v0, .int v1] (dn_X5_road v0 v1) := by
  refine zCt_of (lv := [(0, .ref v0), (1, .int v1)]) (by decide +kernel) (Nat.le_of_ble_eq_true rfl) rfl ?_
  show zSm g l cX5_road 2 RX5 "road" (some .int) 1 22 zrI 0 [(0, .ref v0), (1, .int v1)] [] (dn_X5_road v0 v1)
  unfold dn_X5_road
  refine z_rec ?_
  refine z_iload_n (j := 1) (q := 1) (by decide +kernel) rfl 1 rfl ?_
  refine z_iconst (n := 0) (v := 0) (q := 2) (by decide +kernel) rfl (by decide) ?_
  refine z_bipush (n := 39) (v := 39) (q := 4) (by decide +kernel) rfl (by decide) ?_
  refine z_callSI (As := [.int v1, .int 0, .int 39]) (st := []) (q := 7) (ct_X5_in g l v1 0 39) zm_RX5_86 rfl (by decide) (by decide) (Nat.le_of_ble_eq_true rfl) rfl (by decide +kernel) rfl fun x1 => ?_
  refine z_if_ne (off := 5) (t := 12) (q := 10) (by decide +kernel) (by decide) rfl ?_ ?_
  · refine z_iload_n (j := 1) (q := 13) (by decide +kernel) rfl 1 rfl ?_
    refine z_aload_n (j := 0) (q := 14) (by decide +kernel) rfl 0 rfl ?_
    refine z_getI (q := 17) zf_RX5_144 (by decide +kernel) rfl fun x3 => ?_
    refine z_icmp_ge (off := 17) (t := 34) (q := 20) (by decide +kernel) (by decide) rfl ?_ ?_
    · refine z_aload_n (j := 0) (q := 35) (by decide +kernel) rfl 0 rfl ?_
      refine z_iconst (n := 2) (v := 2) (q := 36) (by decide +kernel) rfl (by decide) ?_
      refine z_callVI (As := [.int 2]) (st := []) (q := 39) (ct_X5_meets g l v0 2) zm_RX5_100 (rc_X5_meets v0 2) rfl (by decide) (by decide) (Nat.le_of_ble_eq_true rfl) rfl (by decide +kernel) rfl fun x4 => ?_
      refine zsub [] rfl ?_
      exact sj_X5_road_39 g l x4
    · refine z_aload_n (j := 0) (q := 21) (by decide +kernel) rfl 0 rfl ?_
      refine z_aload_n (j := 0) (q := 22) (by decide +kernel) rfl 0 rfl ?_
      refine z_getA (q := 25) zf_RX5_29 (by decide +kernel) rfl fun x6 => ?_
      refine z_iload_n (j := 1) (q := 26) (by decide +kernel) rfl 1 rfl ?_
      refine z_iald (q := 27) (Or.inl ⟨rfl, rfl⟩) (by decide +kernel) rfl fun x7 => ?_
      refine z_iconst (n := 1) (v := 1) (q := 28) (by decide +kernel) rfl (by decide) ?_
      refine z_callVI (As := [.int x7, .int 1]) (st := []) (q := 31) (ct_X5_tells g l v0 x7 1) zm_RX5_108 (rc_X5_tells v0 x7 1) rfl (by decide) (by decide) (Nat.le_of_ble_eq_true rfl) rfl (by decide +kernel) rfl fun x8 => ?_
      refine z_goto (off := 8) (t := 39) (by decide +kernel) (by decide) ?_
      refine zsub [] rfl ?_
      exact sj_X5_road_39 g l x8
  · refine z_iconst (n := (-1)) (v := (-1)) (q := 11) (by decide +kernel) rfl (by decide) ?_
    exact z_iret (by decide +kernel)
theorem rc_X5_road (v0 : Nat) (v1 : Int32) : ∀ h x, dn_X5_road v0 v1 h = some x → ∃ fs, zgO 5 v0 h = some fs := fun h x hd => by
  obtain ⟨fs, e, -⟩ := Option.bind_eq_some_iff.mp hd
  exact ⟨fs, e⟩
def jn_X5_aboutTells_47 (w0 : Int32) : zAH → Option (Int32 × zAH) := fun h => some (w0, h)
theorem sj_X5_aboutTells_47 (g : zG) (l : Launch) (w0 : Int32) : zSm g l cX5_aboutTells 3 RX5 "aboutTells" (some .int) 0 0 zrI 47 [] [.int w0] (jn_X5_aboutTells_47 w0) := by
  unfold jn_X5_aboutTells_47
  exact z_iret (by decide +kernel)
def dn_X5_aboutTells (v0 : Nat) (v1 : Int32) (v2 : Int32) : zAH → Option (Int32 × zAH) := fun h => (zgO 5 v0 h).bind fun _ => if v2 = 0 then (zgA 5 13 v0 h).bind fun x7 => (zaI 0 x7 v1 h).bind fun x8 => jn_X5_aboutTells_47 x8 h else if v2 = 1 then (zgA 5 14 v0 h).bind fun x5 => (zaI 0 x5 v1 h).bind fun x6 => jn_X5_aboutTells_47 x6 h else if v2 = 2 then (zgA 5 15 v0 h).bind fun x3 => (zaI 0 x3 v1 h).bind fun x4 => jn_X5_aboutTells_47 x4 h else (zgA 5 16 v0 h).bind fun x1 => (zaI 0 x1 v1 h).bind fun x2 => jn_X5_aboutTells_47 x2 h
theorem ct_X5_aboutTells (g : zG) (l : Launch) (v0 : Nat) (v1 : Int32) (v2 : Int32) : zCt g l yX5_aboutTells cX5_aboutTells 3 (some .int) 0 0 zrI [.ref v0, .int v1, .int v2] (dn_X5_aboutTells v0 v1 v2) := by
  refine zCt_of (lv := [(0, .ref v0), (1, .int v1), (2, .int v2)]) (by decide +kernel) (Nat.le_of_ble_eq_true rfl) rfl ?_
  show zSm g l cX5_aboutTells 3 RX5 "aboutTells" (some .int) 0 0 zrI 0 [(0, .ref v0), (1, .int v1), (2, .int v2)] [] (dn_X5_aboutTells v0 v1 v2)
  unfold dn_X5_aboutTells
  refine z_rec ?_
  refine z_iload_n (j := 2) (q := 1) (by decide +kernel) rfl 2 rfl ?_
  refine z_if_ne (off := 12) (t := 13) (q := 4) (by decide +kernel) (by decide) rfl ?_ ?_
  · refine z_iload_n (j := 2) (q := 14) (by decide +kernel) rfl 2 rfl ?_
    refine z_iconst (n := 1) (v := 1) (q := 15) (by decide +kernel) rfl (by decide) ?_
    refine z_icmp_ne (off := 12) (t := 27) (q := 18) (by decide +kernel) (by decide) rfl ?_ ?_
    · refine z_iload_n (j := 2) (q := 28) (by decide +kernel) rfl 2 rfl ?_
      refine z_iconst (n := 2) (v := 2) (q := 29) (by decide +kernel) rfl (by decide) ?_
      refine z_icmp_ne (off := 12) (t := 41) (q := 32) (by decide +kernel) (by decide) rfl ?_ ?_
      · refine z_aload_n (j := 0) (q := 42) (by decide +kernel) rfl 0 rfl ?_
        refine z_getA (q := 45) zf_RX5_41 (by decide +kernel) rfl fun x1 => ?_
        refine z_iload_n (j := 1) (q := 46) (by decide +kernel) rfl 1 rfl ?_
        refine z_iald (q := 47) (Or.inl ⟨rfl, rfl⟩) (by decide +kernel) rfl fun x2 => ?_
        refine zsub [] rfl ?_
        exact sj_X5_aboutTells_47 g l x2
      · refine z_aload_n (j := 0) (q := 33) (by decide +kernel) rfl 0 rfl ?_
        refine z_getA (q := 36) zf_RX5_38 (by decide +kernel) rfl fun x3 => ?_
        refine z_iload_n (j := 1) (q := 37) (by decide +kernel) rfl 1 rfl ?_
        refine z_iald (q := 38) (Or.inl ⟨rfl, rfl⟩) (by decide +kernel) rfl fun x4 => ?_
        refine z_goto (off := 9) (t := 47) (by decide +kernel) (by decide) ?_
        refine zsub [] rfl ?_
        exact sj_X5_aboutTells_47 g l x4
    · refine z_aload_n (j := 0) (q := 19) (by decide +kernel) rfl 0 rfl ?_
      refine z_getA (q := 22) zf_RX5_35 (by decide +kernel) rfl fun x5 => ?_
      refine z_iload_n (j := 1) (q := 23) (by decide +kernel) rfl 1 rfl ?_
      refine z_iald (q := 24) (Or.inl ⟨rfl, rfl⟩) (by decide +kernel) rfl fun x6 => ?_
      refine z_goto (off := 23) (t := 47) (by decide +kernel) (by decide) ?_
      refine zsub [] rfl ?_
      exact sj_X5_aboutTells_47 g l x6
  · refine z_aload_n (j := 0) (q := 5) (by decide +kernel) rfl 0 rfl ?_
    refine z_getA (q := 8) zf_RX5_32 (by decide +kernel) rfl fun x7 => ?_
    refine z_iload_n (j := 1) (q := 9) (by decide +kernel) rfl 1 rfl ?_
    refine z_iald (q := 10) (Or.inl ⟨rfl, rfl⟩) (by decide +kernel) rfl fun x8 => ?_
    refine z_goto (off := 37) (t := 47) (by decide +kernel) (by decide) ?_
    refine zsub [] rfl ?_
    exact sj_X5_aboutTells_47 g l x8
theorem rc_X5_aboutTells (v0 : Nat) (v1 : Int32) (v2 : Int32) : ∀ h x, dn_X5_aboutTells v0 v1 v2 h = some x → ∃ fs, zgO 5 v0 h = some fs := fun h x hd => by
  obtain ⟨fs, e, -⟩ := Option.bind_eq_some_iff.mp hd
  exact ⟨fs, e⟩
def jn_X5_about_32 (w0 : Int32) : zAH → Option (Int32 × zAH) := fun h => some (w0, h)
theorem sj_X5_about_32 (g : zG) (l : Launch) (w0 : Int32) : zSm g l cX5_about 3 RX5 "about" (some .int) 2 43 zrI 32 [] [.int w0] (jn_X5_about_32 w0) := by
  unfold jn_X5_about_32
  exact z_iret (by decide +kernel)
def jn_X5_about_31 : zAH → Option (Int32 × zAH) := fun h => jn_X5_about_32 ((-1)) h
theorem sj_X5_about_31 (g : zG) (l : Launch) : zSm g l cX5_about 3 RX5 "about" (some .int) 2 43 zrI 31 [] [] (jn_X5_about_31) := by
  unfold jn_X5_about_31
  refine z_iconst (n := (-1)) (v := (-1)) (q := 32) (by decide +kernel) rfl (by decide) ?_
  refine zsub [] rfl ?_
  exact sj_X5_about_32 g l ((-1))
def dn_X5_about (v0 : Nat) (v1 : Int32) (v2 : Int32) : zAH → Option (Int32 × zAH) := fun h => (zgO 5 v0 h).bind fun _ => zbd (dn_X5_isRunner v0 v1 h) fun x1 h2 => if x1 = 0 then jn_X5_about_31 h2 else zbd (dn_X5_in v2 0 3 h2) fun x3 h4 => if x3 = 0 then jn_X5_about_31 h4 else zbd (dn_X5_aboutTells v0 v1 v2 h4) fun x5 h6 => zbd (dn_X5_tells v0 x5 1 h6) fun x7 h8 => jn_X5_about_32 x7 h8
theorem ct_X5_about (g : zG) (l : Launch) (v0 : Nat) (v1 : Int32) (v2 : Int32) : zCt g l yX5_about cX5_about 3 (some .int) 2 43 zrI [.ref v0, .int v1, .int v2] (dn_X5_about v0 v1 v2) := by
  refine zCt_of (lv := [(0, .ref v0), (1, .int v1), (2, .int v2)]) (by decide +kernel) (Nat.le_of_ble_eq_true rfl) rfl ?_
  show zSm g l cX5_about 3 RX5 "about" (some .int) 2 43 zrI 0 [(0, .ref v0), (1, .int v1), (2, .int v2)] [] (dn_X5_about v0 v1 v2)
  unfold dn_X5_about
  refine z_rec ?_
  refine z_aload_n (j := 0) (q := 1) (by decide +kernel) rfl 0 rfl ?_
  refine z_iload_n (j := 1) (q := 2) (by decide +kernel) rfl 1 rfl ?_
  refine z_callVI (As := [.int v1]) (st := []) (q := 5) (ct_X5_isRunner g l v0 v1) zm_RX5_160 (rc_X5_isRunner v0 v1) rfl (by decide) (by decide) (Nat.le_of_ble_eq_true rfl) rfl (by decide +kernel) rfl fun x1 => ?_
  refine z_if_eq (off := 26) (t := 31) (q := 8) (by decide +kernel) (by decide) rfl ?_ ?_
  · refine zsub [] rfl ?_
    exact sj_X5_about_31 g l 
  · refine z_iload_n (j := 2) (q := 9) (by decide +kernel) rfl 2 rfl ?_
    refine z_iconst (n := 0) (v := 0) (q := 10) (by decide +kernel) rfl (by decide) ?_
    refine z_iconst (n := 3) (v := 3) (q := 11) (by decide +kernel) rfl (by decide) ?_
    refine z_callSI (As := [.int v2, .int 0, .int 3]) (st := []) (q := 14) (ct_X5_in g l v2 0 3) zm_RX5_86 rfl (by decide) (by decide) (Nat.le_of_ble_eq_true rfl) rfl (by decide +kernel) rfl fun x3 => ?_
    refine z_if_eq (off := 17) (t := 31) (q := 17) (by decide +kernel) (by decide) rfl ?_ ?_
    · refine zsub [] rfl ?_
      exact sj_X5_about_31 g l 
    · refine z_aload_n (j := 0) (q := 18) (by decide +kernel) rfl 0 rfl ?_
      refine z_aload_n (j := 0) (q := 19) (by decide +kernel) rfl 0 rfl ?_
      refine z_iload_n (j := 1) (q := 20) (by decide +kernel) rfl 1 rfl ?_
      refine z_iload_n (j := 2) (q := 21) (by decide +kernel) rfl 2 rfl ?_
      refine z_callVI (As := [.int v1, .int v2]) (st := [.ref v0]) (q := 24) (ct_X5_aboutTells g l v0 v1 v2) zm_RX5_163 (rc_X5_aboutTells v0 v1 v2) rfl (by decide) (by decide) (Nat.le_of_ble_eq_true rfl) rfl (by decide +kernel) rfl fun x5 => ?_
      refine z_iconst (n := 1) (v := 1) (q := 25) (by decide +kernel) rfl (by decide) ?_
      refine z_callVI (As := [.int x5, .int 1]) (st := []) (q := 28) (ct_X5_tells g l v0 x5 1) zm_RX5_108 (rc_X5_tells v0 x5 1) rfl (by decide) (by decide) (Nat.le_of_ble_eq_true rfl) rfl (by decide +kernel) rfl fun x7 => ?_
      refine z_goto (off := 4) (t := 32) (by decide +kernel) (by decide) ?_
      refine zsub [] rfl ?_
      exact sj_X5_about_32 g l x7
theorem rc_X5_about (v0 : Nat) (v1 : Int32) (v2 : Int32) : ∀ h x, dn_X5_about v0 v1 v2 h = some x → ∃ fs, zgO 5 v0 h = some fs := fun h x hd => by
  obtain ⟨fs, e, -⟩ := Option.bind_eq_some_iff.mp hd
  exact ⟨fs, e⟩
def jn_X5_pace_45 (w0 : Int32) : zAH → Option (Int32 × zAH) := fun h => some (w0, h)
theorem sj_X5_pace_45 (g : zG) (l : Launch) (w0 : Int32) : zSm g l cX5_pace 3 RX5 "pace" (some .int) 2 43 zrI 45 [] [.int w0] (jn_X5_pace_45 w0) := by
  unfold jn_X5_pace_45
  exact z_iret (by decide +kernel)
def dn_X5_pace (v0 : Nat) (v1 : Int32) (v2 : Int32) : zAH → Option (Int32 × zAH) := fun h => (zgO 5 v0 h).bind fun _ => zbd (dn_X5_isRunner v0 v1 h) fun x1 h2 => if x1 = 0 then some ((-1), h2) else (zgA 5 16 v0 h2).bind fun x3 => (zaI 0 x3 v1 h2).bind fun x4 => zbd (dn_X5_in v2 0 (x4 - 1) h2) fun x5 h6 => if x5 = 0 then zbd (dn_X5_meets v0 2 h6) fun x7 h8 => jn_X5_pace_45 x7 h8 else (zgA 5 17 v0 h6).bind fun x9 => (zaI 0 x9 ((8 * v1) + v2) h6).bind fun x10 => jn_X5_pace_45 x10 h6
theorem ct_X5_pace (g : zG) (l : Launch) (v0 : Nat) (v1 : Int32) (v2 : Int32) : zCt g l yX5_pace cX5_pace 3 (some .int) 2 43 zrI [.ref v0, .int v1, .int v2] (dn_X5_pace v0 v1 v2) := by
  refine zCt_of (lv := [(0, .ref v0), (1, .int v1), (2, .int v2)]) (by decide +kernel) (Nat.le_of_ble_eq_true rfl) rfl ?_
  show zSm g l cX5_pace 3 RX5 "pace" (some .int) 2 43 zrI 0 [(0, .ref v0), (1, .int v1), (2, .int v2)] [] (dn_X5_pace v0 v1 v2)
  unfold dn_X5_pace
  refine z_rec ?_
  refine z_aload_n (j := 0) (q := 1) (by decide +kernel) rfl 0 rfl ?_
  refine z_iload_n (j := 1) (q := 2) (by decide +kernel) rfl 1 rfl ?_
  refine z_callVI (As := [.int v1]) (st := []) (q := 5) (ct_X5_isRunner g l v0 v1) zm_RX5_160 (rc_X5_isRunner v0 v1) rfl (by decide) (by decide) (Nat.le_of_ble_eq_true rfl) rfl (by decide +kernel) rfl fun x1 => ?_
  refine z_if_ne (off := 5) (t := 10) (q := 8) (by decide +kernel) (by decide) rfl ?_ ?_
  · refine z_iload_n (j := 2) (q := 11) (by decide +kernel) rfl 2 rfl ?_
    refine z_iconst (n := 0) (v := 0) (q := 12) (by decide +kernel) rfl (by decide) ?_
    refine z_aload_n (j := 0) (q := 13) (by decide +kernel) rfl 0 rfl ?_
    refine z_getA (q := 16) zf_RX5_41 (by decide +kernel) rfl fun x3 => ?_
    refine z_iload_n (j := 1) (q := 17) (by decide +kernel) rfl 1 rfl ?_
    refine z_iald (q := 18) (Or.inl ⟨rfl, rfl⟩) (by decide +kernel) rfl fun x4 => ?_
    refine z_iconst (n := 1) (v := 1) (q := 19) (by decide +kernel) rfl (by decide) ?_
    refine z_isub (q := 20) (by decide +kernel) rfl ?_
    refine z_callSI (As := [.int v2, .int 0, .int (x4 - 1)]) (st := []) (q := 23) (ct_X5_in g l v2 0 (x4 - 1)) zm_RX5_86 rfl (by decide) (by decide) (Nat.le_of_ble_eq_true rfl) rfl (by decide +kernel) rfl fun x5 => ?_
    refine z_if_eq (off := 17) (t := 40) (q := 26) (by decide +kernel) (by decide) rfl ?_ ?_
    · refine z_aload_n (j := 0) (q := 41) (by decide +kernel) rfl 0 rfl ?_
      refine z_iconst (n := 2) (v := 2) (q := 42) (by decide +kernel) rfl (by decide) ?_
      refine z_callVI (As := [.int 2]) (st := []) (q := 45) (ct_X5_meets g l v0 2) zm_RX5_100 (rc_X5_meets v0 2) rfl (by decide) (by decide) (Nat.le_of_ble_eq_true rfl) rfl (by decide +kernel) rfl fun x7 => ?_
      refine zsub [] rfl ?_
      exact sj_X5_pace_45 g l x7
    · refine z_aload_n (j := 0) (q := 27) (by decide +kernel) rfl 0 rfl ?_
      refine z_getA (q := 30) zf_RX5_44 (by decide +kernel) rfl fun x9 => ?_
      refine z_bipush (n := 8) (v := 8) (q := 32) (by decide +kernel) rfl (by decide) ?_
      refine z_iload_n (j := 1) (q := 33) (by decide +kernel) rfl 1 rfl ?_
      refine z_imul (q := 34) (by decide +kernel) rfl ?_
      refine z_iload_n (j := 2) (q := 35) (by decide +kernel) rfl 2 rfl ?_
      refine z_iadd (q := 36) (by decide +kernel) rfl ?_
      refine z_iald (q := 37) (Or.inl ⟨rfl, rfl⟩) (by decide +kernel) rfl fun x10 => ?_
      refine z_goto (off := 8) (t := 45) (by decide +kernel) (by decide) ?_
      refine zsub [] rfl ?_
      exact sj_X5_pace_45 g l x10
  · refine z_iconst (n := (-1)) (v := (-1)) (q := 9) (by decide +kernel) rfl (by decide) ?_
    exact z_iret (by decide +kernel)
theorem rc_X5_pace (v0 : Nat) (v1 : Int32) (v2 : Int32) : ∀ h x, dn_X5_pace v0 v1 v2 h = some x → ∃ fs, zgO 5 v0 h = some fs := fun h x hd => by
  obtain ⟨fs, e, -⟩ := Option.bind_eq_some_iff.mp hd
  exact ⟨fs, e⟩
def jn_X5_isGoat_25 (w0 : Int32) : zAH → Option (Int32 × zAH) := fun h => if w0 = 0 ∨ w0 = 1 then some (w0, h) else none
theorem sj_X5_isGoat_25 (g : zG) (l : Launch) (w0 : Int32) : zSm g l cX5_isGoat 2 RX5 "isGoat" (some .boolean) 0 0 zrI 25 [] [.int w0] (jn_X5_isGoat_25 w0) := by
  unfold jn_X5_isGoat_25
  exact z_zret (by decide +kernel)
def jn_X5_isGoat_20 : zAH → Option (Int32 × zAH) := fun h => jn_X5_isGoat_25 1 h
theorem sj_X5_isGoat_20 (g : zG) (l : Launch) : zSm g l cX5_isGoat 2 RX5 "isGoat" (some .boolean) 0 0 zrI 20 [] [] (jn_X5_isGoat_20) := by
  unfold jn_X5_isGoat_20
  refine z_iconst (n := 1) (v := 1) (q := 21) (by decide +kernel) rfl (by decide) ?_
  refine z_goto (off := 4) (t := 25) (by decide +kernel) (by decide) ?_
  refine zsub [] rfl ?_
  exact sj_X5_isGoat_25 g l 1
def dn_X5_isGoat (v0 : Nat) (v1 : Int32) : zAH → Option (Int32 × zAH) := fun h => (zgO 5 v0 h).bind fun _ => (zgA 5 13 v0 h).bind fun x1 => (zaI 0 x1 v1 h).bind fun x2 => if x2 = 1 then jn_X5_isGoat_20 h else (zgA 5 13 v0 h).bind fun x3 => (zaI 0 x3 v1 h).bind fun x4 => if x4 = 4 then jn_X5_isGoat_20 h else jn_X5_isGoat_25 0 h
theorem ct_X5_isGoat (g : zG) (l : Launch) (v0 : Nat) (v1 : Int32) : zCt g l yX5_isGoat cX5_isGoat 2 (some .boolean) 0 0 zrI [.ref v0, .int v1] (dn_X5_isGoat v0 v1) := by
  refine zCt_of (lv := [(0, .ref v0), (1, .int v1)]) (by decide +kernel) (Nat.le_of_ble_eq_true rfl) rfl ?_
  show zSm g l cX5_isGoat 2 RX5 "isGoat" (some .boolean) 0 0 zrI 0 [(0, .ref v0), (1, .int v1)] [] (dn_X5_isGoat v0 v1)
  unfold dn_X5_isGoat
  refine z_rec ?_
  refine z_aload_n (j := 0) (q := 1) (by decide +kernel) rfl 0 rfl ?_
  refine z_getA (q := 4) zf_RX5_32 (by decide +kernel) rfl fun x1 => ?_
  refine z_iload_n (j := 1) (q := 5) (by decide +kernel) rfl 1 rfl ?_
  refine z_iald (q := 6) (Or.inl ⟨rfl, rfl⟩) (by decide +kernel) rfl fun x2 => ?_
  refine z_iconst (n := 1) (v := 1) (q := 7) (by decide +kernel) rfl (by decide) ?_
  refine z_icmp_eq (off := 13) (t := 20) (q := 10) (by decide +kernel) (by decide) rfl ?_ ?_
  · refine zsub [] rfl ?_
    exact sj_X5_isGoat_20 g l 
  · refine z_aload_n (j := 0) (q := 11) (by decide +kernel) rfl 0 rfl ?_
    refine z_getA (q := 14) zf_RX5_32 (by decide +kernel) rfl fun x3 => ?_
    refine z_iload_n (j := 1) (q := 15) (by decide +kernel) rfl 1 rfl ?_
    refine z_iald (q := 16) (Or.inl ⟨rfl, rfl⟩) (by decide +kernel) rfl fun x4 => ?_
    refine z_iconst (n := 4) (v := 4) (q := 17) (by decide +kernel) rfl (by decide) ?_
    refine z_icmp_ne (off := 7) (t := 24) (q := 20) (by decide +kernel) (by decide) rfl ?_ ?_
    · refine z_iconst (n := 0) (v := 0) (q := 25) (by decide +kernel) rfl (by decide) ?_
      refine zsub [] rfl ?_
      exact sj_X5_isGoat_25 g l 0
    · refine zsub [] rfl ?_
      exact sj_X5_isGoat_20 g l 
theorem rc_X5_isGoat (v0 : Nat) (v1 : Int32) : ∀ h x, dn_X5_isGoat v0 v1 h = some x → ∃ fs, zgO 5 v0 h = some fs := fun h x hd => by
  obtain ⟨fs, e, -⟩ := Option.bind_eq_some_iff.mp hd
  exact ⟨fs, e⟩
def jn_X5_isOx_25 (w0 : Int32) : zAH → Option (Int32 × zAH) := fun h => if w0 = 0 ∨ w0 = 1 then some (w0, h) else none
theorem sj_X5_isOx_25 (g : zG) (l : Launch) (w0 : Int32) : zSm g l cX5_isOx 2 RX5 "isOx" (some .boolean) 0 0 zrI 25 [] [.int w0] (jn_X5_isOx_25 w0) := by
  unfold jn_X5_isOx_25
  exact z_zret (by decide +kernel)
def jn_X5_isOx_20 : zAH → Option (Int32 × zAH) := fun h => jn_X5_isOx_25 1 h
theorem sj_X5_isOx_20 (g : zG) (l : Launch) : zSm g l cX5_isOx 2 RX5 "isOx" (some .boolean) 0 0 zrI 20 [] [] (jn_X5_isOx_20) := by
  unfold jn_X5_isOx_20
  refine z_iconst (n := 1) (v := 1) (q := 21) (by decide +kernel) rfl (by decide) ?_
  refine z_goto (off := 4) (t := 25) (by decide +kernel) (by decide) ?_
  refine zsub [] rfl ?_
  exact sj_X5_isOx_25 g l 1
def dn_X5_isOx (v0 : Nat) (v1 : Int32) : zAH → Option (Int32 × zAH) := fun h => (zgO 5 v0 h).bind fun _ => (zgA 5 13 v0 h).bind fun x1 => (zaI 0 x1 v1 h).bind fun x2 => if x2 = 2 then jn_X5_isOx_20 h else (zgA 5 13 v0 h).bind fun x3 => (zaI 0 x3 v1 h).bind fun x4 => if x4 = 5 then jn_X5_isOx_20 h else jn_X5_isOx_25 0 h
theorem ct_X5_isOx (g : zG) (l : Launch) (v0 : Nat) (v1 : Int32) : zCt g l yX5_isOx cX5_isOx 2 (some .boolean) 0 0 zrI [.ref v0, .int v1] (dn_X5_isOx v0 v1) := by
  refine zCt_of (lv := [(0, .ref v0), (1, .int v1)]) (by decide +kernel) (Nat.le_of_ble_eq_true rfl) rfl ?_
  show zSm g l cX5_isOx 2 RX5 "isOx" (some .boolean) 0 0 zrI 0 [(0, .ref v0), (1, .int v1)] [] (dn_X5_isOx v0 v1)
  unfold dn_X5_isOx
  refine z_rec ?_
  refine z_aload_n (j := 0) (q := 1) (by decide +kernel) rfl 0 rfl ?_
  refine z_getA (q := 4) zf_RX5_32 (by decide +kernel) rfl fun x1 => ?_
  refine z_iload_n (j := 1) (q := 5) (by decide +kernel) rfl 1 rfl ?_
  refine z_iald (q := 6) (Or.inl ⟨rfl, rfl⟩) (by decide +kernel) rfl fun x2 => ?_
  refine z_iconst (n := 2) (v := 2) (q := 7) (by decide +kernel) rfl (by decide) ?_
  refine z_icmp_eq (off := 13) (t := 20) (q := 10) (by decide +kernel) (by decide) rfl ?_ ?_
  · refine zsub [] rfl ?_
    exact sj_X5_isOx_20 g l 
  · refine z_aload_n (j := 0) (q := 11) (by decide +kernel) rfl 0 rfl ?_
    refine z_getA (q := 14) zf_RX5_32 (by decide +kernel) rfl fun x3 => ?_
    refine z_iload_n (j := 1) (q := 15) (by decide +kernel) rfl 1 rfl ?_
    refine z_iald (q := 16) (Or.inl ⟨rfl, rfl⟩) (by decide +kernel) rfl fun x4 => ?_
    refine z_iconst (n := 5) (v := 5) (q := 17) (by decide +kernel) rfl (by decide) ?_
    refine z_icmp_ne (off := 7) (t := 24) (q := 20) (by decide +kernel) (by decide) rfl ?_ ?_
    · refine z_iconst (n := 0) (v := 0) (q := 25) (by decide +kernel) rfl (by decide) ?_
      refine zsub [] rfl ?_
      exact sj_X5_isOx_25 g l 0
    · refine zsub [] rfl ?_
      exact sj_X5_isOx_20 g l 
theorem rc_X5_isOx (v0 : Nat) (v1 : Int32) : ∀ h x, dn_X5_isOx v0 v1 h = some x → ∃ fs, zgO 5 v0 h = some fs := fun h x hd => by
  obtain ⟨fs, e, -⟩ := Option.bind_eq_some_iff.mp hd
  exact ⟨fs, e⟩
def jn_X5_pacesOf_38 (kc5 : (Int32 × Int32) → zAH → Option (Int32 × zAH)) (v0 : Nat) (v1 : Int32) (v2 : Int32) (v4 : Int32) (w0 : Int32) (w1 : Int32) : zAH → Option (Int32 × zAH) := fun h => kc5 (w0 + w1, v4 + 1) h
theorem sj_X5_pacesOf_38 (g : zG) (l : Launch) (kc5 : (Int32 × Int32) → zAH → Option (Int32 × zAH)) (v0 : Nat) (v1 : Int32) (v2 : Int32) (v4 : Int32) (w0 : Int32) (w1 : Int32) (hkc5 : ∀ s, zSm g l cX5_pacesOf 5 RX5 "pacesOf" (some .int) 0 0 zrI 5 [(0, .ref v0), (1, .int v1), (2, .int v2), (3, .int s.1), (4, .int s.2)] [] (kc5 s)) : zSm g l cX5_pacesOf 5 RX5 "pacesOf" (some .int) 0 0 zrI 38 [(0, .ref v0), (1, .int v1), (2, .int v2), (4, .int v4)] [.int w1, .int w0] (jn_X5_pacesOf_38 kc5 v0 v1 v2 v4 w0 w1) := by
  unfold jn_X5_pacesOf_38
  refine z_iadd (q := 39) (by decide +kernel) rfl ?_
  refine z_istore_n (j := 3) (q := 40) (by decide +kernel) rfl (by decide) rfl ?_
  refine z_iinc (j := 4) (n := 1) (v := 1) (q := 43) (by decide +kernel) rfl 4 rfl (by decide) (by decide) rfl ?_
  refine z_goto (off := (-38)) (t := 5) (by decide +kernel) (by decide) ?_
  refine zsub [2, 3, 4, 1, 0] rfl ?_
  exact hkc5 (w0 + w1, v4 + 1)
def jn_X5_pacesOf_46 (v3 : Int32) : zAH → Option (Int32 × zAH) := fun h => some (v3, h)
theorem sj_X5_pacesOf_46 (g : zG) (l : Launch) (v3 : Int32) : zSm g l cX5_pacesOf 5 RX5 "pacesOf" (some .int) 0 0 zrI 46 [(3, .int v3)] [] (jn_X5_pacesOf_46 v3) := by
  unfold jn_X5_pacesOf_46
  refine z_iload_n (j := 3) (q := 47) (by decide +kernel) rfl 0 rfl ?_
  exact z_iret (by decide +kernel)
def lb_X5_pacesOf_5 (v0 : Nat) (v1 : Int32) (v2 : Int32) (rec : (Int32 × Int32) → zAH → Option (Int32 × zAH)) (s : Int32 × Int32) : zAH → Option (Int32 × zAH) := fun h => (zgA 5 16 v0 h).bind fun x1 => (zaI 0 x1 v1 h).bind fun x2 => if s.2 < x2 then (zgA 5 17 v0 h).bind fun x3 => (zaI 0 x3 ((8 * v1) + s.2) h).bind fun x4 => if x4 = v2 then jn_X5_pacesOf_38 rec v0 v1 v2 s.2 s.1 1 h else jn_X5_pacesOf_38 rec v0 v1 v2 s.2 s.1 0 h else jn_X5_pacesOf_46 s.1 h
def lp_X5_pacesOf_5 (v0 : Nat) (v1 : Int32) (v2 : Int32) (s : Int32 × Int32) : zAH → Option (Int32 × zAH) := zlp (lb_X5_pacesOf_5 v0 v1 v2) 2000 s
theorem sl_X5_pacesOf_5 (g : zG) (l : Launch) (v0 : Nat) (v1 : Int32) (v2 : Int32) (s : Int32 × Int32) : zSm g l cX5_pacesOf 5 RX5 "pacesOf" (some .int) 0 0 zrI 5 [(0, .ref v0), (1, .int v1), (2, .int v2), (3, .int s.1), (4, .int s.2)] [] (lp_X5_pacesOf_5 v0 v1 v2 s) := by
  unfold lp_X5_pacesOf_5
  refine z_loop (lvf := fun s => [(0, .ref v0), (1, .int v1), (2, .int v2), (3, .int s.1), (4, .int s.2)]) (fun rec hrec s => ?_) 2000 s
  unfold lb_X5_pacesOf_5
  refine z_iload (j := 4) (q := 7) (by decide +kernel) rfl 4 rfl ?_
  refine z_aload_n (j := 0) (q := 8) (by decide +kernel) rfl 0 rfl ?_
  refine z_getA (q := 11) zf_RX5_41 (by decide +kernel) rfl fun x1 => ?_
  refine z_iload_n (j := 1) (q := 12) (by decide +kernel) rfl 1 rfl ?_
  refine z_iald (q := 13) (Or.inl ⟨rfl, rfl⟩) (by decide +kernel) rfl fun x2 => ?_
  refine z_icmp_ge (off := 33) (t := 46) (q := 16) (by decide +kernel) (by decide) rfl ?_ ?_
  · refine zsub [3] rfl ?_
    exact sj_X5_pacesOf_46 g l s.1
  · refine z_iload_n (j := 3) (q := 17) (by decide +kernel) rfl 3 rfl ?_
    refine z_aload_n (j := 0) (q := 18) (by decide +kernel) rfl 0 rfl ?_
    refine z_getA (q := 21) zf_RX5_44 (by decide +kernel) rfl fun x3 => ?_
    refine z_bipush (n := 8) (v := 8) (q := 23) (by decide +kernel) rfl (by decide) ?_
    refine z_iload_n (j := 1) (q := 24) (by decide +kernel) rfl 1 rfl ?_
    refine z_imul (q := 25) (by decide +kernel) rfl ?_
    refine z_iload (j := 4) (q := 27) (by decide +kernel) rfl 4 rfl ?_
    refine z_iadd (q := 28) (by decide +kernel) rfl ?_
    refine z_iald (q := 29) (Or.inl ⟨rfl, rfl⟩) (by decide +kernel) rfl fun x4 => ?_
    refine z_iload_n (j := 2) (q := 30) (by decide +kernel) rfl 2 rfl ?_
    refine z_icmp_ne (off := 7) (t := 37) (q := 33) (by decide +kernel) (by decide) rfl ?_ ?_
    · refine z_iconst (n := 0) (v := 0) (q := 38) (by decide +kernel) rfl (by decide) ?_
      refine zsub [0, 1, 2, 4] rfl ?_
      exact sj_X5_pacesOf_38 g l rec v0 v1 v2 s.2 s.1 0 hrec
    · refine z_iconst (n := 1) (v := 1) (q := 34) (by decide +kernel) rfl (by decide) ?_
      refine z_goto (off := 4) (t := 38) (by decide +kernel) (by decide) ?_
      refine zsub [0, 1, 2, 4] rfl ?_
      exact sj_X5_pacesOf_38 g l rec v0 v1 v2 s.2 s.1 1 hrec
def dn_X5_pacesOf (v0 : Nat) (v1 : Int32) (v2 : Int32) : zAH → Option (Int32 × zAH) := fun h => (zgO 5 v0 h).bind fun _ => lp_X5_pacesOf_5 v0 v1 v2 (0, 0) h
theorem ct_X5_pacesOf (g : zG) (l : Launch) (v0 : Nat) (v1 : Int32) (v2 : Int32) : zCt g l yX5_pacesOf cX5_pacesOf 5 (some .int) 0 0 zrI [.ref v0, .int v1, .int v2] (dn_X5_pacesOf v0 v1 v2) := by
  refine zCt_of (lv := [(0, .ref v0), (1, .int v1), (2, .int v2)]) (by decide +kernel) (Nat.le_of_ble_eq_true rfl) rfl ?_
  show zSm g l cX5_pacesOf 5 RX5 "pacesOf" (some .int) 0 0 zrI 0 [(0, .ref v0), (1, .int v1), (2, .int v2)] [] (dn_X5_pacesOf v0 v1 v2)
  unfold dn_X5_pacesOf
  refine z_rec ?_
  refine z_iconst (n := 0) (v := 0) (q := 1) (by decide +kernel) rfl (by decide) ?_
  refine z_istore_n (j := 3) (q := 2) (by decide +kernel) rfl (by decide) rfl ?_
  refine z_iconst (n := 0) (v := 0) (q := 3) (by decide +kernel) rfl (by decide) ?_
  refine z_istore (j := 4) (q := 5) (by decide +kernel) rfl (by decide) rfl ?_
  refine zsub [2, 3, 4, 1, 0] rfl ?_
  exact sl_X5_pacesOf_5 g l v0 v1 v2 (0, 0)
theorem rc_X5_pacesOf (v0 : Nat) (v1 : Int32) (v2 : Int32) : ∀ h x, dn_X5_pacesOf v0 v1 v2 h = some x → ∃ fs, zgO 5 v0 h = some fs := fun h x hd => by
  obtain ⟨fs, e, -⟩ := Option.bind_eq_some_iff.mp hd
  exact ⟨fs, e⟩
def jn_X5_steepYards_27 (kc4 : (Int32 × Int32) → zAH → Option (Int32 × zAH)) (v0 : Nat) (v2 : Int32) (w0 : Int32) (w1 : Int32) : zAH → Option (Int32 × zAH) := fun h => kc4 (w0 + w1, v2 + 1) h
theorem sj_X5_steepYards_27 (g : zG) (l : Launch) (kc4 : (Int32 × Int32) → zAH → Option (Int32 × zAH)) (v0 : Nat) (v2 : Int32) (w0 : Int32) (w1 : Int32) (hkc4 : ∀ s, zSm g l cX5_steepYards 3 RX5 "steepYards" (some .int) 0 0 zrI 4 [(0, .ref v0), (1, .int s.1), (2, .int s.2)] [] (kc4 s)) : zSm g l cX5_steepYards 3 RX5 "steepYards" (some .int) 0 0 zrI 27 [(0, .ref v0), (2, .int v2)] [.int w1, .int w0] (jn_X5_steepYards_27 kc4 v0 v2 w0 w1) := by
  unfold jn_X5_steepYards_27
  refine z_iadd (q := 28) (by decide +kernel) rfl ?_
  refine z_istore_n (j := 1) (q := 29) (by decide +kernel) rfl (by decide) rfl ?_
  refine z_iinc (j := 2) (n := 1) (v := 1) (q := 32) (by decide +kernel) rfl 2 rfl (by decide) (by decide) rfl ?_
  refine z_goto (off := (-28)) (t := 4) (by decide +kernel) (by decide) ?_
  refine zsub [2, 1, 0] rfl ?_
  exact hkc4 (w0 + w1, v2 + 1)
def jn_X5_steepYards_35 (v1 : Int32) : zAH → Option (Int32 × zAH) := fun h => some (v1, h)
theorem sj_X5_steepYards_35 (g : zG) (l : Launch) (v1 : Int32) : zSm g l cX5_steepYards 3 RX5 "steepYards" (some .int) 0 0 zrI 35 [(1, .int v1)] [] (jn_X5_steepYards_35 v1) := by
  unfold jn_X5_steepYards_35
  refine z_iload_n (j := 1) (q := 36) (by decide +kernel) rfl 0 rfl ?_
  exact z_iret (by decide +kernel)
def lb_X5_steepYards_4 (v0 : Nat) (rec : (Int32 × Int32) → zAH → Option (Int32 × zAH)) (s : Int32 × Int32) : zAH → Option (Int32 × zAH) := fun h => (zgI 5 10 v0 h).bind fun x1 => if s.2 < x1 then (zgA 5 11 v0 h).bind fun x2 => (zaI 0 x2 s.2 h).bind fun x3 => if 0 < x3 then jn_X5_steepYards_27 rec v0 s.2 s.1 1 h else jn_X5_steepYards_27 rec v0 s.2 s.1 0 h else jn_X5_steepYards_35 s.1 h
def lp_X5_steepYards_4 (v0 : Nat) (s : Int32 × Int32) : zAH → Option (Int32 × zAH) := zlp (lb_X5_steepYards_4 v0) 2000 s
theorem sl_X5_steepYards_4 (g : zG) (l : Launch) (v0 : Nat) (s : Int32 × Int32) : zSm g l cX5_steepYards 3 RX5 "steepYards" (some .int) 0 0 zrI 4 [(0, .ref v0), (1, .int s.1), (2, .int s.2)] [] (lp_X5_steepYards_4 v0 s) := by
  unfold lp_X5_steepYards_4
  refine z_loop (lvf := fun s => [(0, .ref v0), (1, .int s.1), (2, .int s.2)]) (fun rec hrec s => ?_) 2000 s
  unfold lb_X5_steepYards_4
  refine z_iload_n (j := 2) (q := 5) (by decide +kernel) rfl 2 rfl ?_
  refine z_aload_n (j := 0) (q := 6) (by decide +kernel) rfl 0 rfl ?_
  refine z_getI (q := 9) zf_RX5_144 (by decide +kernel) rfl fun x1 => ?_
  refine z_icmp_ge (off := 26) (t := 35) (q := 12) (by decide +kernel) (by decide) rfl ?_ ?_
  · refine zsub [1] rfl ?_
    exact sj_X5_steepYards_35 g l s.1
  · refine z_iload_n (j := 1) (q := 13) (by decide +kernel) rfl 1 rfl ?_
    refine z_aload_n (j := 0) (q := 14) (by decide +kernel) rfl 0 rfl ?_
    refine z_getA (q := 17) zf_RX5_29 (by decide +kernel) rfl fun x2 => ?_
    refine z_iload_n (j := 2) (q := 18) (by decide +kernel) rfl 2 rfl ?_
    refine z_iald (q := 19) (Or.inl ⟨rfl, rfl⟩) (by decide +kernel) rfl fun x3 => ?_
    refine z_if_le (off := 7) (t := 26) (q := 22) (by decide +kernel) (by decide) rfl ?_ ?_
    · refine z_iconst (n := 0) (v := 0) (q := 27) (by decide +kernel) rfl (by decide) ?_
      refine zsub [0, 2] rfl ?_
      exact sj_X5_steepYards_27 g l rec v0 s.2 s.1 0 hrec
    · refine z_iconst (n := 1) (v := 1) (q := 23) (by decide +kernel) rfl (by decide) ?_
      refine z_goto (off := 4) (t := 27) (by decide +kernel) (by decide) ?_
      refine zsub [0, 2] rfl ?_
      exact sj_X5_steepYards_27 g l rec v0 s.2 s.1 1 hrec
def dn_X5_steepYards (v0 : Nat) : zAH → Option (Int32 × zAH) := fun h => (zgO 5 v0 h).bind fun _ => lp_X5_steepYards_4 v0 (0, 0) h
theorem ct_X5_steepYards (g : zG) (l : Launch) (v0 : Nat) : zCt g l yX5_steepYards cX5_steepYards 3 (some .int) 0 0 zrI [.ref v0] (dn_X5_steepYards v0) := by
  refine zCt_of (lv := [(0, .ref v0)]) (by decide +kernel) (Nat.le_of_ble_eq_true rfl) rfl ?_
  show zSm g l cX5_steepYards 3 RX5 "steepYards" (some .int) 0 0 zrI 0 [(0, .ref v0)] [] (dn_X5_steepYards v0)
  unfold dn_X5_steepYards
  refine z_rec ?_
  refine z_iconst (n := 0) (v := 0) (q := 1) (by decide +kernel) rfl (by decide) ?_
  refine z_istore_n (j := 1) (q := 2) (by decide +kernel) rfl (by decide) rfl ?_
  refine z_iconst (n := 0) (v := 0) (q := 3) (by decide +kernel) rfl (by decide) ?_
  refine z_istore_n (j := 2) (q := 4) (by decide +kernel) rfl (by decide) rfl ?_
  refine zsub [2, 1, 0] rfl ?_
  exact sl_X5_steepYards_4 g l v0 (0, 0)
theorem rc_X5_steepYards (v0 : Nat) : ∀ h x, dn_X5_steepYards v0 h = some x → ∃ fs, zgO 5 v0 h = some fs := fun h x hd => by
  obtain ⟨fs, e, -⟩ := Option.bind_eq_some_iff.mp hd
  exact ⟨fs, e⟩
def jn_X5_mark_17 : zAH → Option (Int32 × zAH) := fun h => some ((-1), h)
theorem sj_X5_mark_17 (g : zG) (l : Launch) : zSm g l cX5_mark 3 RX5 "mark" (some .int) 2 43 zrI 17 [] [] (jn_X5_mark_17) := by
  unfold jn_X5_mark_17
  refine z_iconst (n := (-1)) (v := (-1)) (q := 18) (by decide +kernel) rfl (by decide) ?_
  exact z_iret (by decide +kernel)
def jn_X5_mark_55 (v0 : Nat) : zAH → Option (Int32 × zAH) := fun h => zbd (dn_X5_meets v0 3 h) fun x1 h2 => some (x1, h2)
theorem sj_X5_mark_55 (g : zG) (l : Launch) (v0 : Nat) : zSm g l cX5_mark 3 RX5 "mark" (some .int) 2 43 zrI 55 [(0, .ref v0)] [] (jn_X5_mark_55 v0) := by
  unfold jn_X5_mark_55
  refine z_aload_n (j := 0) (q := 56) (by decide +kernel) rfl 0 rfl ?_
  refine z_iconst (n := 3) (v := 3) (q := 57) (by decide +kernel) rfl (by decide) ?_
  refine z_callVI (As := [.int 3]) (st := []) (q := 60) (ct_X5_meets g l v0 3) zm_RX5_100 (rc_X5_meets v0 3) rfl (by decide) (by decide) (Nat.le_of_ble_eq_true rfl) rfl (by decide +kernel) rfl fun x1 => ?_
  exact z_iret (by decide +kernel)
def jn_X5_mark_111 (v0 : Nat) (v1 : Int32) : zAH → Option (Int32 × zAH) := fun h => zbd (dn_X5_pacesOf v0 v1 3 h) fun x1 h2 => some (x1, h2)
theorem sj_X5_mark_111 (g : zG) (l : Launch) (v0 : Nat) (v1 : Int32) : zSm g l cX5_mark 3 RX5 "mark" (some .int) 2 43 zrI 111 [(0, .ref v0), (1, .int v1)] [] (jn_X5_mark_111 v0 v1) := by
  unfold jn_X5_mark_111
  refine z_aload_n (j := 0) (q := 112) (by decide +kernel) rfl 0 rfl ?_
  refine z_iload_n (j := 1) (q := 113) (by decide +kernel) rfl 1 rfl ?_
  refine z_iconst (n := 3) (v := 3) (q := 114) (by decide +kernel) rfl (by decide) ?_
  refine z_callVI (As := [.int v1, .int 3]) (st := []) (q := 117) (ct_X5_pacesOf g l v0 v1 3) zm_RX5_176 (rc_X5_pacesOf v0 v1 3) rfl (by decide) (by decide) (Nat.le_of_ble_eq_true rfl) rfl (by decide +kernel) rfl fun x1 => ?_
  exact z_iret (by decide +kernel)
def jn_X5_mark_61 (v0 : Nat) (v1 : Int32) (v2 : Int32) : zAH → Option (Int32 × zAH) := fun h => if v2 = 1 then zbd (dn_X5_steepYards v0 h) fun x1 h2 => some (x1, h2) else if v2 = 2 then (zgA 5 14 v0 h).bind fun x4 => (zaI 0 x4 v1 h).bind fun x5 => some (x5, h) else if v2 = 4 then zbd (dn_X5_pacesOf v0 v1 0 h) fun x7 h8 => some (x7, h8) else jn_X5_mark_111 v0 v1 h
theorem sj_X5_mark_61 (g : zG) (l : Launch) (v0 : Nat) (v1 : Int32) (v2 : Int32) : zSm g l cX5_mark 3 RX5 "mark" (some .int) 2 43 zrI 61 [(0, .ref v0), (1, .int v1), (2, .int v2)] [] (jn_X5_mark_61 v0 v1 v2) := by
  unfold jn_X5_mark_61
  refine z_iload_n (j := 2) (q := 62) (by decide +kernel) rfl 2 rfl ?_
  refine z_case (fun c3 => ?_) (fun c3 => ?_)
  · refine z_tabIn (v := 1) (off := 30) (t := 92) c3 (by decide +kernel : decode cX5_mark 62 = .ok (.tableswitch 49 1 4 #[30, 35, 49, 42], 30)) (by decide) (by decide) (by decide) (by decide) ?_
    refine z_aload_n (j := 0) (q := 93) (by decide +kernel) rfl 0 rfl ?_
    refine z_callVI (As := []) (st := []) (q := 96) (ct_X5_steepYards g l v0) zm_RX5_172 (rc_X5_steepYards v0) rfl (by decide) (by decide) (Nat.le_of_ble_eq_true rfl) rfl (by decide +kernel) rfl fun x1 => ?_
    exact z_iret (by decide +kernel)
  · skip
    refine z_case (fun c6 => ?_) (fun c6 => ?_)
    · refine z_tabIn (v := 2) (off := 35) (t := 97) c6 (by decide +kernel : decode cX5_mark 62 = .ok (.tableswitch 49 1 4 #[30, 35, 49, 42], 30)) (by decide) (by decide) (by decide) (by decide) ?_
      refine z_aload_n (j := 0) (q := 98) (by decide +kernel) rfl 0 rfl ?_
      refine z_getA (q := 101) zf_RX5_35 (by decide +kernel) rfl fun x4 => ?_
      refine z_iload_n (j := 1) (q := 102) (by decide +kernel) rfl 1 rfl ?_
      refine z_iald (q := 103) (Or.inl ⟨rfl, rfl⟩) (by decide +kernel) rfl fun x5 => ?_
      exact z_iret (by decide +kernel)
    · skip
      refine z_case (fun c9 => ?_) (fun c9 => ?_)
      · refine z_tabIn (v := 4) (off := 42) (t := 104) c9 (by decide +kernel : decode cX5_mark 62 = .ok (.tableswitch 49 1 4 #[30, 35, 49, 42], 30)) (by decide) (by decide) (by decide) (by decide) ?_
        refine z_aload_n (j := 0) (q := 105) (by decide +kernel) rfl 0 rfl ?_
        refine z_iload_n (j := 1) (q := 106) (by decide +kernel) rfl 1 rfl ?_
        refine z_iconst (n := 0) (v := 0) (q := 107) (by decide +kernel) rfl (by decide) ?_
        refine z_callVI (As := [.int v1, .int 0]) (st := []) (q := 110) (ct_X5_pacesOf g l v0 v1 0) zm_RX5_176 (rc_X5_pacesOf v0 v1 0) rfl (by decide) (by decide) (Nat.le_of_ble_eq_true rfl) rfl (by decide +kernel) rfl fun x7 => ?_
        exact z_iret (by decide +kernel)
      · skip
        have nc3 := lv_neT (a := 1) c3 (by decide)
        have nc6 := lv_neT (a := 2) c6 (by decide)
        have nc9 := lv_neT (a := 4) c9 (by decide)
        refine z_tabOut (t := 111) (by decide +kernel : decode cX5_mark 62 = .ok (.tableswitch 49 1 4 #[30, 35, 49, 42], 30)) (by
            by_cases ho : (v2).toInt < 1 ∨ 4 < (v2).toInt
            · exact Or.inl ho
            · refine Or.inr ⟨by omega, by omega, ?_⟩
              have hh : (v2).toInt = 3 := by omega
              rcases hh with hh <;> rw [hh] <;> rfl) (by decide) ?_
        refine zsub [0, 1] rfl ?_
        exact sj_X5_mark_111 g l v0 v1
def jn_X5_mark_42 (v0 : Nat) (v1 : Int32) (v2 : Int32) : zAH → Option (Int32 × zAH) := fun h => if v2 = 2 then zbd (dn_X5_isOx v0 v1 h) fun x1 h2 => if x1 = 0 then jn_X5_mark_55 v0 h2 else jn_X5_mark_61 v0 v1 v2 h2 else jn_X5_mark_55 v0 h
theorem sj_X5_mark_42 (g : zG) (l : Launch) (v0 : Nat) (v1 : Int32) (v2 : Int32) : zSm g l cX5_mark 3 RX5 "mark" (some .int) 2 43 zrI 42 [(0, .ref v0), (1, .int v1), (2, .int v2)] [] (jn_X5_mark_42 v0 v1 v2) := by
  unfold jn_X5_mark_42
  refine z_iload_n (j := 2) (q := 43) (by decide +kernel) rfl 2 rfl ?_
  refine z_iconst (n := 2) (v := 2) (q := 44) (by decide +kernel) rfl (by decide) ?_
  refine z_icmp_ne (off := 11) (t := 55) (q := 47) (by decide +kernel) (by decide) rfl ?_ ?_
  · refine zsub [0] rfl ?_
    exact sj_X5_mark_55 g l v0
  · refine z_aload_n (j := 0) (q := 48) (by decide +kernel) rfl 0 rfl ?_
    refine z_iload_n (j := 1) (q := 49) (by decide +kernel) rfl 1 rfl ?_
    refine z_callVI (As := [.int v1]) (st := []) (q := 52) (ct_X5_isOx g l v0 v1) zm_RX5_169 (rc_X5_isOx v0 v1) rfl (by decide) (by decide) (Nat.le_of_ble_eq_true rfl) rfl (by decide +kernel) rfl fun x1 => ?_
    refine z_if_ne (off := 9) (t := 61) (q := 55) (by decide +kernel) (by decide) rfl ?_ ?_
    · refine zsub [0, 1, 2] rfl ?_
      exact sj_X5_mark_61 g l v0 v1 v2
    · refine zsub [0] rfl ?_
      exact sj_X5_mark_55 g l v0
def dn_X5_mark (v0 : Nat) (v1 : Int32) (v2 : Int32) : zAH → Option (Int32 × zAH) := fun h => (zgO 5 v0 h).bind fun _ => zbd (dn_X5_isRunner v0 v1 h) fun x1 h2 => if x1 = 0 then jn_X5_mark_17 h2 else zbd (dn_X5_in v2 1 5 h2) fun x3 h4 => if x3 = 0 then jn_X5_mark_17 h4 else (zgA 5 13 v0 h4).bind fun x5 => (zaI 0 x5 v1 h4).bind fun x6 => if x6 = v2 then jn_X5_mark_61 v0 v1 v2 h4 else if v2 = 1 then zbd (dn_X5_isGoat v0 v1 h4) fun x7 h8 => if x7 = 0 then jn_X5_mark_42 v0 v1 v2 h8 else jn_X5_mark_61 v0 v1 v2 h8 else jn_X5_mark_42 v0 v1 v2 h4
theorem ct_X5_mark (g : zG) (l : Launch) (v0 : Nat) (v1 : Int32) (v2 : Int32) : zCt g l yX5_mark cX5_mark 3 (some .int) 2 43 zrI [.ref v0, .int v1, .int v2] (dn_X5_mark v0 v1 v2) := by
  refine zCt_of (lv := [(0, .ref v0), (1, .int v1), (2, .int v2)]) (by decide +kernel) (Nat.le_of_ble_eq_true rfl) rfl ?_
  show zSm g l cX5_mark 3 RX5 "mark" (some .int) 2 43 zrI 0 [(0, .ref v0), (1, .int v1), (2, .int v2)] [] (dn_X5_mark v0 v1 v2)
  unfold dn_X5_mark
  refine z_rec ?_
  refine z_aload_n (j := 0) (q := 1) (by decide +kernel) rfl 0 rfl ?_
  refine z_iload_n (j := 1) (q := 2) (by decide +kernel) rfl 1 rfl ?_
  refine z_callVI (As := [.int v1]) (st := []) (q := 5) (ct_X5_isRunner g l v0 v1) zm_RX5_160 (rc_X5_isRunner v0 v1) rfl (by decide) (by decide) (Nat.le_of_ble_eq_true rfl) rfl (by decide +kernel) rfl fun x1 => ?_
  refine z_if_eq (off := 12) (t := 17) (q := 8) (by decide +kernel) (by decide) rfl ?_ ?_
  · refine zsub [] rfl ?_
    exact sj_X5_mark_17 g l 
  · refine z_iload_n (j := 2) (q := 9) (by decide +kernel) rfl 2 rfl ?_
    refine z_iconst (n := 1) (v := 1) (q := 10) (by decide +kernel) rfl (by decide) ?_
    refine z_iconst (n := 5) (v := 5) (q := 11) (by decide +kernel) rfl (by decide) ?_
    refine z_callSI (As := [.int v2, .int 1, .int 5]) (st := []) (q := 14) (ct_X5_in g l v2 1 5) zm_RX5_86 rfl (by decide) (by decide) (Nat.le_of_ble_eq_true rfl) rfl (by decide +kernel) rfl fun x3 => ?_
    refine z_if_ne (off := 5) (t := 19) (q := 17) (by decide +kernel) (by decide) rfl ?_ ?_
    · refine z_aload_n (j := 0) (q := 20) (by decide +kernel) rfl 0 rfl ?_
      refine z_getA (q := 23) zf_RX5_32 (by decide +kernel) rfl fun x5 => ?_
      refine z_iload_n (j := 1) (q := 24) (by decide +kernel) rfl 1 rfl ?_
      refine z_iald (q := 25) (Or.inl ⟨rfl, rfl⟩) (by decide +kernel) rfl fun x6 => ?_
      refine z_iload_n (j := 2) (q := 26) (by decide +kernel) rfl 2 rfl ?_
      refine z_icmp_eq (off := 35) (t := 61) (q := 29) (by decide +kernel) (by decide) rfl ?_ ?_
      · refine zsub [0, 1, 2] rfl ?_
        exact sj_X5_mark_61 g l v0 v1 v2
      · refine z_iload_n (j := 2) (q := 30) (by decide +kernel) rfl 2 rfl ?_
        refine z_iconst (n := 1) (v := 1) (q := 31) (by decide +kernel) rfl (by decide) ?_
        refine z_icmp_ne (off := 11) (t := 42) (q := 34) (by decide +kernel) (by decide) rfl ?_ ?_
        · refine zsub [0, 1, 2] rfl ?_
          exact sj_X5_mark_42 g l v0 v1 v2
        · refine z_aload_n (j := 0) (q := 35) (by decide +kernel) rfl 0 rfl ?_
          refine z_iload_n (j := 1) (q := 36) (by decide +kernel) rfl 1 rfl ?_
          refine z_callVI (As := [.int v1]) (st := []) (q := 39) (ct_X5_isGoat g l v0 v1) zm_RX5_166 (rc_X5_isGoat v0 v1) rfl (by decide) (by decide) (Nat.le_of_ble_eq_true rfl) rfl (by decide +kernel) rfl fun x7 => ?_
          refine z_if_ne (off := 22) (t := 61) (q := 42) (by decide +kernel) (by decide) rfl ?_ ?_
          · refine zsub [0, 1, 2] rfl ?_
            exact sj_X5_mark_61 g l v0 v1 v2
          · refine zsub [0, 1, 2] rfl ?_
            exact sj_X5_mark_42 g l v0 v1 v2
    · refine zsub [] rfl ?_
      exact sj_X5_mark_17 g l 
theorem rc_X5_mark (v0 : Nat) (v1 : Int32) (v2 : Int32) : ∀ h x, dn_X5_mark v0 v1 v2 h = some x → ∃ fs, zgO 5 v0 h = some fs := fun h x hd => by
  obtain ⟨fs, e, -⟩ := Option.bind_eq_some_iff.mp hd
  exact ⟨fs, e⟩
def jn_X5_head_18 : zAH → Option (Int32 × zAH) := fun h => some ((-1), h)
theorem sj_X5_head_18 (g : zG) (l : Launch) : zSm g l cX5_head 4 RX5 "head" (some .int) 2 43 zrI 18 [] [] (jn_X5_head_18) := by
  unfold jn_X5_head_18
  refine z_iconst (n := (-1)) (v := (-1)) (q := 19) (by decide +kernel) rfl (by decide) ?_
  exact z_iret (by decide +kernel)
def dn_X5_head (v0 : Nat) (v1 : Int32) (v2 : Int32) : zAH → Option (Int32 × zAH) := fun h => (zgO 5 v0 h).bind fun _ => zbd (dn_X5_isRunner v0 v1 h) fun x1 h2 => if x1 = 0 then jn_X5_head_18 h2 else zbd (dn_X5_in v2 0 9 h2) fun x3 h4 => if x3 = 0 then jn_X5_head_18 h4 else (zgA 5 15 v0 h4).bind fun x5 => (zaI 0 x5 v1 h4).bind fun x6 => (zgA 5 15 v0 h4).bind fun x7 => (zaS 0 x7 v1 v2 h4).bind fun h8 => some (x6, h8)
theorem ct_X5_head (g : zG) (l : Launch) (v0 : Nat) (v1 : Int32) (v2 : Int32) : zCt g l yX5_head cX5_head 4 (some .int) 2 43 zrI [.ref v0, .int v1, .int v2] (dn_X5_head v0 v1 v2) := by
  refine zCt_of (lv := [(0, .ref v0), (1, .int v1), (2, .int v2)]) (by decide +kernel) (Nat.le_of_ble_eq_true rfl) rfl ?_
  show zSm g l cX5_head 4 RX5 "head" (some .int) 2 43 zrI 0 [(0, .ref v0), (1, .int v1), (2, .int v2)] [] (dn_X5_head v0 v1 v2)
  unfold dn_X5_head
  refine z_rec ?_
  refine z_aload_n (j := 0) (q := 1) (by decide +kernel) rfl 0 rfl ?_
  refine z_iload_n (j := 1) (q := 2) (by decide +kernel) rfl 1 rfl ?_
  refine z_callVI (As := [.int v1]) (st := []) (q := 5) (ct_X5_isRunner g l v0 v1) zm_RX5_160 (rc_X5_isRunner v0 v1) rfl (by decide) (by decide) (Nat.le_of_ble_eq_true rfl) rfl (by decide +kernel) rfl fun x1 => ?_
  refine z_if_eq (off := 13) (t := 18) (q := 8) (by decide +kernel) (by decide) rfl ?_ ?_
  · refine zsub [] rfl ?_
    exact sj_X5_head_18 g l 
  · refine z_iload_n (j := 2) (q := 9) (by decide +kernel) rfl 2 rfl ?_
    refine z_iconst (n := 0) (v := 0) (q := 10) (by decide +kernel) rfl (by decide) ?_
    refine z_bipush (n := 9) (v := 9) (q := 12) (by decide +kernel) rfl (by decide) ?_
    refine z_callSI (As := [.int v2, .int 0, .int 9]) (st := []) (q := 15) (ct_X5_in g l v2 0 9) zm_RX5_86 rfl (by decide) (by decide) (Nat.le_of_ble_eq_true rfl) rfl (by decide +kernel) rfl fun x3 => ?_
    refine z_if_ne (off := 5) (t := 20) (q := 18) (by decide +kernel) (by decide) rfl ?_ ?_
    · refine z_aload_n (j := 0) (q := 21) (by decide +kernel) rfl 0 rfl ?_
      refine z_getA (q := 24) zf_RX5_38 (by decide +kernel) rfl fun x5 => ?_
      refine z_iload_n (j := 1) (q := 25) (by decide +kernel) rfl 1 rfl ?_
      refine z_iald (q := 26) (Or.inl ⟨rfl, rfl⟩) (by decide +kernel) rfl fun x6 => ?_
      refine z_istore_n (j := 3) (q := 27) (by decide +kernel) rfl (by decide) rfl ?_
      refine z_aload_n (j := 0) (q := 28) (by decide +kernel) rfl 1 rfl ?_
      refine z_getA (q := 31) zf_RX5_38 (by decide +kernel) rfl fun x7 => ?_
      refine z_iload_n (j := 1) (q := 32) (by decide +kernel) rfl 2 rfl ?_
      refine z_iload_n (j := 2) (q := 33) (by decide +kernel) rfl 3 rfl ?_
      refine z_iast (q := 34) (Or.inl ⟨rfl, rfl, rfl⟩) (by decide +kernel) rfl ?_
      refine z_iload_n (j := 3) (q := 35) (by decide +kernel) rfl 0 rfl ?_
      exact z_iret (by decide +kernel)
    · refine zsub [] rfl ?_
      exact sj_X5_head_18 g l 
theorem rc_X5_head (v0 : Nat) (v1 : Int32) (v2 : Int32) : ∀ h x, dn_X5_head v0 v1 v2 h = some x → ∃ fs, zgO 5 v0 h = some fs := fun h x hd => by
  obtain ⟨fs, e, -⟩ := Option.bind_eq_some_iff.mp hd
  exact ⟨fs, e⟩
def dn_X5_law (v0 : Nat) (v1 : Int32) : zAH → Option (Int32 × zAH) := fun h => (zgO 5 v0 h).bind fun _ => zbd (dn_X5_in v1 0 2 h) fun x1 h2 => if x1 = 0 then some ((-1), h2) else (zgI 5 18 v0 h2).bind fun x3 => (zpF 5 18 v0 (.int v1) h2).bind fun h4 => some (x3, h4)
theorem ct_X5_law (g : zG) (l : Launch) (v0 : Nat) (v1 : Int32) : zCt g l yX5_law cX5_law 3 (some .int) 1 22 zrI [.ref v0, .int v1] (dn_X5_law v0 v1) := by
  refine zCt_of (lv := [(0, .ref v0), (1, .int v1)]) (by decide +kernel) (Nat.le_of_ble_eq_true rfl) rfl ?_
  show zSm g l cX5_law 3 RX5 "law" (some .int) 1 22 zrI 0 [(0, .ref v0), (1, .int v1)] [] (dn_X5_law v0 v1)
  unfold dn_X5_law
  refine z_rec ?_
  refine z_iload_n (j := 1) (q := 1) (by decide +kernel) rfl 1 rfl ?_
  refine z_iconst (n := 0) (v := 0) (q := 2) (by decide +kernel) rfl (by decide) ?_
  refine z_iconst (n := 2) (v := 2) (q := 3) (by decide +kernel) rfl (by decide) ?_
  refine z_callSI (As := [.int v1, .int 0, .int 2]) (st := []) (q := 6) (ct_X5_in g l v1 0 2) zm_RX5_86 rfl (by decide) (by decide) (Nat.le_of_ble_eq_true rfl) rfl (by decide +kernel) rfl fun x1 => ?_
  refine z_if_ne (off := 5) (t := 11) (q := 9) (by decide +kernel) (by decide) rfl ?_ ?_
  · refine z_aload_n (j := 0) (q := 12) (by decide +kernel) rfl 0 rfl ?_
    refine z_getI (q := 15) zf_RX5_150 (by decide +kernel) rfl fun x3 => ?_
    refine z_istore_n (j := 2) (q := 16) (by decide +kernel) rfl (by decide) rfl ?_
    refine z_aload_n (j := 0) (q := 17) (by decide +kernel) rfl 1 rfl ?_
    refine z_iload_n (j := 1) (q := 18) (by decide +kernel) rfl 2 rfl ?_
    refine z_putV (q := 21) zp_RX5_150 (fun z => by cases z) rfl rfl (by decide +kernel) rfl ?_
    refine z_iload_n (j := 2) (q := 22) (by decide +kernel) rfl 0 rfl ?_
    exact z_iret (by decide +kernel)
  · refine z_iconst (n := (-1)) (v := (-1)) (q := 10) (by decide +kernel) rfl (by decide) ?_
    exact z_iret (by decide +kernel)
theorem rc_X5_law (v0 : Nat) (v1 : Int32) : ∀ h x, dn_X5_law v0 v1 h = some x → ∃ fs, zgO 5 v0 h = some fs := fun h x hd => by
  obtain ⟨fs, e, -⟩ := Option.bind_eq_some_iff.mp hd
  exact ⟨fs, e⟩
def dn_X5_v (v0 : Nat) (v1 : Int32) : zAH → Option (Int32 × zAH) := fun h => (zgO 5 v0 h).bind fun _ => (zgA 5 28 v0 h).bind fun x1 => (zgI 5 29 v0 h).bind fun x2 => (zaI 0 x1 (x2 + v1) h).bind fun x3 => some (x3, h)
theorem ct_X5_v (g : zG) (l : Launch) (v0 : Nat) (v1 : Int32) : zCt g l yX5_v cX5_v 2 (some .int) 0 0 zrI [.ref v0, .int v1] (dn_X5_v v0 v1) := by
  refine zCt_of (lv := [(0, .ref v0), (1, .int v1)]) (by decide +kernel) (Nat.le_of_ble_eq_true rfl) rfl ?_
  show zSm g l cX5_v 2 RX5 "v" (some .int) 0 0 zrI 0 [(0, .ref v0), (1, .int v1)] [] (dn_X5_v v0 v1)
  unfold dn_X5_v
  refine z_rec ?_
  refine z_aload_n (j := 0) (q := 1) (by decide +kernel) rfl 0 rfl ?_
  refine z_getA (q := 4) zf_RX5_66 (by decide +kernel) rfl fun x1 => ?_
  refine z_aload_n (j := 0) (q := 5) (by decide +kernel) rfl 0 rfl ?_
  refine z_getI (q := 8) zf_RX5_179 (by decide +kernel) rfl fun x2 => ?_
  refine z_iload_n (j := 1) (q := 9) (by decide +kernel) rfl 1 rfl ?_
  refine z_iadd (q := 10) (by decide +kernel) rfl ?_
  refine z_iald (q := 11) (Or.inl ⟨rfl, rfl⟩) (by decide +kernel) rfl fun x3 => ?_
  exact z_iret (by decide +kernel)
theorem rc_X5_v (v0 : Nat) (v1 : Int32) : ∀ h x, dn_X5_v v0 v1 h = some x → ∃ fs, zgO 5 v0 h = some fs := fun h x hd => by
  obtain ⟨fs, e, -⟩ := Option.bind_eq_some_iff.mp hd
  exact ⟨fs, e⟩
def jn_X5_copyRace_36 : zAH → Option (Unit × zAH) := fun h => some ((), h)
theorem sj_X5_copyRace_36 (g : zG) (l : Launch) : zSm g l cX5_copyRace 4 RX5 "copyRace" none 0 0 zrV 36 [] [] (jn_X5_copyRace_36) := by
  unfold jn_X5_copyRace_36
  exact z_vret (by decide +kernel)
def lb_X5_copyRace_2 (v0 : Nat) (v1 : Int32) (v2 : Int32) (rec : (Int32) → zAH → Option (Unit × zAH)) (s : Int32) : zAH → Option (Unit × zAH) := fun h => if s < 33 then (zgA 5 28 v0 h).bind fun x1 => (zgA 5 28 v0 h).bind fun x2 => (zaI 0 x2 ((33 * v1) + s) h).bind fun x3 => (zaS 0 x1 ((33 * v2) + s) x3 h).bind fun h4 => rec (s + 1) h4 else jn_X5_copyRace_36 h
def lp_X5_copyRace_2 (v0 : Nat) (v1 : Int32) (v2 : Int32) (s : Int32) : zAH → Option (Unit × zAH) := zlp (lb_X5_copyRace_2 v0 v1 v2) 2000 s
theorem sl_X5_copyRace_2 (g : zG) (l : Launch) (v0 : Nat) (v1 : Int32) (v2 : Int32) (s : Int32) : zSm g l cX5_copyRace 4 RX5 "copyRace" none 0 0 zrV 2 [(0, .ref v0), (1, .int v1), (2, .int v2), (3, .int s)] [] (lp_X5_copyRace_2 v0 v1 v2 s) := by
  unfold lp_X5_copyRace_2
  refine z_loop (lvf := fun s => [(0, .ref v0), (1, .int v1), (2, .int v2), (3, .int s)]) (fun rec hrec s => ?_) 2000 s
  unfold lb_X5_copyRace_2
  refine z_iload_n (j := 3) (q := 3) (by decide +kernel) rfl 3 rfl ?_
  refine z_bipush (n := 33) (v := 33) (q := 5) (by decide +kernel) rfl (by decide) ?_
  refine z_icmp_ge (off := 31) (t := 36) (q := 8) (by decide +kernel) (by decide) rfl ?_ ?_
  · refine zsub [] rfl ?_
    exact sj_X5_copyRace_36 g l 
  · refine z_aload_n (j := 0) (q := 9) (by decide +kernel) rfl 0 rfl ?_
    refine z_getA (q := 12) zf_RX5_66 (by decide +kernel) rfl fun x1 => ?_
    refine z_bipush (n := 33) (v := 33) (q := 14) (by decide +kernel) rfl (by decide) ?_
    refine z_iload_n (j := 2) (q := 15) (by decide +kernel) rfl 2 rfl ?_
    refine z_imul (q := 16) (by decide +kernel) rfl ?_
    refine z_iload_n (j := 3) (q := 17) (by decide +kernel) rfl 3 rfl ?_
    refine z_iadd (q := 18) (by decide +kernel) rfl ?_
    refine z_aload_n (j := 0) (q := 19) (by decide +kernel) rfl 0 rfl ?_
    refine z_getA (q := 22) zf_RX5_66 (by decide +kernel) rfl fun x2 => ?_
    refine z_bipush (n := 33) (v := 33) (q := 24) (by decide +kernel) rfl (by decide) ?_
    refine z_iload_n (j := 1) (q := 25) (by decide +kernel) rfl 1 rfl ?_
    refine z_imul (q := 26) (by decide +kernel) rfl ?_
    refine z_iload_n (j := 3) (q := 27) (by decide +kernel) rfl 3 rfl ?_
    refine z_iadd (q := 28) (by decide +kernel) rfl ?_
    refine z_iald (q := 29) (Or.inl ⟨rfl, rfl⟩) (by decide +kernel) rfl fun x3 => ?_
    refine z_iast (q := 30) (Or.inl ⟨rfl, rfl, rfl⟩) (by decide +kernel) rfl ?_
    refine z_iinc (j := 3) (n := 1) (v := 1) (q := 33) (by decide +kernel) rfl 3 rfl (by decide) (by decide) rfl ?_
    refine z_goto (off := (-31)) (t := 2) (by decide +kernel) (by decide) ?_
    refine zsub [1, 2, 3, 0] rfl ?_
    exact hrec (s + 1)
def dn_X5_copyRace (v0 : Nat) (v1 : Int32) (v2 : Int32) : zAH → Option (Unit × zAH) := fun h => (zgO 5 v0 h).bind fun _ => lp_X5_copyRace_2 v0 v1 v2 0 h
theorem ct_X5_copyRace (g : zG) (l : Launch) (v0 : Nat) (v1 : Int32) (v2 : Int32) : zCt g l yX5_copyRace cX5_copyRace 4 none 0 0 zrV [.ref v0, .int v1, .int v2] (dn_X5_copyRace v0 v1 v2) := by
  refine zCt_of (lv := [(0, .ref v0), (1, .int v1), (2, .int v2)]) (by decide +kernel) (Nat.le_of_ble_eq_true rfl) rfl ?_
  show zSm g l cX5_copyRace 4 RX5 "copyRace" none 0 0 zrV 0 [(0, .ref v0), (1, .int v1), (2, .int v2)] [] (dn_X5_copyRace v0 v1 v2)
  unfold dn_X5_copyRace
  refine z_rec ?_
  refine z_iconst (n := 0) (v := 0) (q := 1) (by decide +kernel) rfl (by decide) ?_
  refine z_istore_n (j := 3) (q := 2) (by decide +kernel) rfl (by decide) rfl ?_
  refine zsub [1, 2, 3, 0] rfl ?_
  exact sl_X5_copyRace_2 g l v0 v1 v2 0
theorem rc_X5_copyRace (v0 : Nat) (v1 : Int32) (v2 : Int32) : ∀ h x, dn_X5_copyRace v0 v1 v2 h = some x → ∃ fs, zgO 5 v0 h = some fs := fun h x hd => by
  obtain ⟨fs, e, -⟩ := Option.bind_eq_some_iff.mp hd
  exact ⟨fs, e⟩
def jn_X5_isDone_18 (w0 : Int32) : zAH → Option (Int32 × zAH) := fun h => if w0 = 0 ∨ w0 = 1 then some (w0, h) else none
theorem sj_X5_isDone_18 (g : zG) (l : Launch) (w0 : Int32) : zSm g l cX5_isDone 2 RX5 "isDone" (some .boolean) 1 21 zrI 18 [] [.int w0] (jn_X5_isDone_18 w0) := by
  unfold jn_X5_isDone_18
  exact z_zret (by decide +kernel)
def dn_X5_isDone (v0 : Nat) (v1 : Int32) : zAH → Option (Int32 × zAH) := fun h => (zgO 5 v0 h).bind fun _ => zbd (dn_X5_v v0 (13 + v1) h) fun x1 h2 => if x1 = ((-9)) then jn_X5_isDone_18 0 h2 else jn_X5_isDone_18 1 h2
theorem ct_X5_isDone (g : zG) (l : Launch) (v0 : Nat) (v1 : Int32) : zCt g l yX5_isDone cX5_isDone 2 (some .boolean) 1 21 zrI [.ref v0, .int v1] (dn_X5_isDone v0 v1) := by
  refine zCt_of (lv := [(0, .ref v0), (1, .int v1)]) (by decide +kernel) (Nat.le_of_ble_eq_true rfl) rfl ?_
  show zSm g l cX5_isDone 2 RX5 "isDone" (some .boolean) 1 21 zrI 0 [(0, .ref v0), (1, .int v1)] [] (dn_X5_isDone v0 v1)
  unfold dn_X5_isDone
  refine z_rec ?_
  refine z_aload_n (j := 0) (q := 1) (by decide +kernel) rfl 0 rfl ?_
  refine z_bipush (n := 13) (v := 13) (q := 3) (by decide +kernel) rfl (by decide) ?_
  refine z_iload_n (j := 1) (q := 4) (by decide +kernel) rfl 1 rfl ?_
  refine z_iadd (q := 5) (by decide +kernel) rfl ?_
  refine z_callVI (As := [.int (13 + v1)]) (st := []) (q := 8) (ct_X5_v g l v0 (13 + v1)) zm_RX5_190 (rc_X5_v v0 (13 + v1)) rfl (by decide) (by decide) (Nat.le_of_ble_eq_true rfl) rfl (by decide +kernel) rfl fun x1 => ?_
  refine z_bipush (n := (-9)) (v := (-9)) (q := 10) (by decide +kernel) rfl (by decide) ?_
  refine z_icmp_eq (off := 7) (t := 17) (q := 13) (by decide +kernel) (by decide) rfl ?_ ?_
  · refine z_iconst (n := 0) (v := 0) (q := 18) (by decide +kernel) rfl (by decide) ?_
    refine zsub [] rfl ?_
    exact sj_X5_isDone_18 g l 0
  · refine z_iconst (n := 1) (v := 1) (q := 14) (by decide +kernel) rfl (by decide) ?_
    refine z_goto (off := 4) (t := 18) (by decide +kernel) (by decide) ?_
    refine zsub [] rfl ?_
    exact sj_X5_isDone_18 g l 1
theorem rc_X5_isDone (v0 : Nat) (v1 : Int32) : ∀ h x, dn_X5_isDone v0 v1 h = some x → ∃ fs, zgO 5 v0 h = some fs := fun h x hd => by
  obtain ⟨fs, e, -⟩ := Option.bind_eq_some_iff.mp hd
  exact ⟨fs, e⟩
def jn_X5_doneMany_26 (kc4 : (Int32 × Int32) → zAH → Option (Int32 × zAH)) (v0 : Nat) (v2 : Int32) (w0 : Int32) (w1 : Int32) : zAH → Option (Int32 × zAH) := fun h => kc4 (w0 + w1, v2 + 1) h
theorem sj_X5_doneMany_26 (g : zG) (l : Launch) (kc4 : (Int32 × Int32) → zAH → Option (Int32 × zAH)) (v0 : Nat) (v2 : Int32) (w0 : Int32) (w1 : Int32) (hkc4 : ∀ s, zSm g l cX5_doneMany 3 RX5 "doneMany" (some .int) 2 42 zrI 4 [(0, .ref v0), (1, .int s.1), (2, .int s.2)] [] (kc4 s)) : zSm g l cX5_doneMany 3 RX5 "doneMany" (some .int) 2 42 zrI 26 [(0, .ref v0), (2, .int v2)] [.int w1, .int w0] (jn_X5_doneMany_26 kc4 v0 v2 w0 w1) := by
  unfold jn_X5_doneMany_26
  refine z_iadd (q := 27) (by decide +kernel) rfl ?_
  refine z_istore_n (j := 1) (q := 28) (by decide +kernel) rfl (by decide) rfl ?_
  refine z_iinc (j := 2) (n := 1) (v := 1) (q := 31) (by decide +kernel) rfl 2 rfl (by decide) (by decide) rfl ?_
  refine z_goto (off := (-27)) (t := 4) (by decide +kernel) (by decide) ?_
  refine zsub [2, 1, 0] rfl ?_
  exact hkc4 (w0 + w1, v2 + 1)
def jn_X5_doneMany_34 (v1 : Int32) : zAH → Option (Int32 × zAH) := fun h => some (v1, h)
theorem sj_X5_doneMany_34 (g : zG) (l : Launch) (v1 : Int32) : zSm g l cX5_doneMany 3 RX5 "doneMany" (some .int) 2 42 zrI 34 [(1, .int v1)] [] (jn_X5_doneMany_34 v1) := by
  unfold jn_X5_doneMany_34
  refine z_iload_n (j := 1) (q := 35) (by decide +kernel) rfl 0 rfl ?_
  exact z_iret (by decide +kernel)
def lb_X5_doneMany_4 (v0 : Nat) (rec : (Int32 × Int32) → zAH → Option (Int32 × zAH)) (s : Int32 × Int32) : zAH → Option (Int32 × zAH) := fun h => (zgI 5 12 v0 h).bind fun x1 => if s.2 < x1 then zbd (dn_X5_isDone v0 s.2 h) fun x2 h3 => if x2 = 0 then jn_X5_doneMany_26 rec v0 s.2 s.1 0 h3 else jn_X5_doneMany_26 rec v0 s.2 s.1 1 h3 else jn_X5_doneMany_34 s.1 h
def lp_X5_doneMany_4 (v0 : Nat) (s : Int32 × Int32) : zAH → Option (Int32 × zAH) := zlp (lb_X5_doneMany_4 v0) 2000 s
theorem sl_X5_doneMany_4 (g : zG) (l : Launch) (v0 : Nat) (s : Int32 × Int32) : zSm g l cX5_doneMany 3 RX5 "doneMany" (some .int) 2 42 zrI 4 [(0, .ref v0), (1, .int s.1), (2, .int s.2)] [] (lp_X5_doneMany_4 v0 s) := by
  unfold lp_X5_doneMany_4
  refine z_loop (lvf := fun s => [(0, .ref v0), (1, .int s.1), (2, .int s.2)]) (fun rec hrec s => ?_) 2000 s
  unfold lb_X5_doneMany_4
  refine z_iload_n (j := 2) (q := 5) (by decide +kernel) rfl 2 rfl ?_
  refine z_aload_n (j := 0) (q := 6) (by decide +kernel) rfl 0 rfl ?_
  refine z_getI (q := 9) zf_RX5_147 (by decide +kernel) rfl fun x1 => ?_
  refine z_icmp_ge (off := 25) (t := 34) (q := 12) (by decide +kernel) (by decide) rfl ?_ ?_
  · refine zsub [1] rfl ?_
    exact sj_X5_doneMany_34 g l s.1
  · refine z_iload_n (j := 1) (q := 13) (by decide +kernel) rfl 1 rfl ?_
    refine z_aload_n (j := 0) (q := 14) (by decide +kernel) rfl 0 rfl ?_
    refine z_iload_n (j := 2) (q := 15) (by decide +kernel) rfl 2 rfl ?_
    refine z_callVI (As := [.int s.2]) (st := [.int s.1]) (q := 18) (ct_X5_isDone g l v0 s.2) zm_RX5_193 (rc_X5_isDone v0 s.2) rfl (by decide) (by decide) (Nat.le_of_ble_eq_true rfl) rfl (by decide +kernel) rfl fun x2 => ?_
    refine z_if_eq (off := 7) (t := 25) (q := 21) (by decide +kernel) (by decide) rfl ?_ ?_
    · refine z_iconst (n := 0) (v := 0) (q := 26) (by decide +kernel) rfl (by decide) ?_
      refine zsub [0, 2] rfl ?_
      exact sj_X5_doneMany_26 g l rec v0 s.2 s.1 0 hrec
    · refine z_iconst (n := 1) (v := 1) (q := 22) (by decide +kernel) rfl (by decide) ?_
      refine z_goto (off := 4) (t := 26) (by decide +kernel) (by decide) ?_
      refine zsub [0, 2] rfl ?_
      exact sj_X5_doneMany_26 g l rec v0 s.2 s.1 1 hrec
def dn_X5_doneMany (v0 : Nat) : zAH → Option (Int32 × zAH) := fun h => (zgO 5 v0 h).bind fun _ => lp_X5_doneMany_4 v0 (0, 0) h
theorem ct_X5_doneMany (g : zG) (l : Launch) (v0 : Nat) : zCt g l yX5_doneMany cX5_doneMany 3 (some .int) 2 42 zrI [.ref v0] (dn_X5_doneMany v0) := by
  refine zCt_of (lv := [(0, .ref v0)]) (by decide +kernel) (Nat.le_of_ble_eq_true rfl) rfl ?_
  show zSm g l cX5_doneMany 3 RX5 "doneMany" (some .int) 2 42 zrI 0 [(0, .ref v0)] [] (dn_X5_doneMany v0)
  unfold dn_X5_doneMany
  refine z_rec ?_
  refine z_iconst (n := 0) (v := 0) (q := 1) (by decide +kernel) rfl (by decide) ?_
  refine z_istore_n (j := 1) (q := 2) (by decide +kernel) rfl (by decide) rfl ?_
  refine z_iconst (n := 0) (v := 0) (q := 3) (by decide +kernel) rfl (by decide) ?_
  refine z_istore_n (j := 2) (q := 4) (by decide +kernel) rfl (by decide) rfl ?_
  refine zsub [2, 1, 0] rfl ?_
  exact sl_X5_doneMany_4 g l v0 (0, 0)
theorem rc_X5_doneMany (v0 : Nat) : ∀ h x, dn_X5_doneMany v0 h = some x → ∃ fs, zgO 5 v0 h = some fs := fun h x hd => by
  obtain ⟨fs, e, -⟩ := Option.bind_eq_some_iff.mp hd
  exact ⟨fs, e⟩
