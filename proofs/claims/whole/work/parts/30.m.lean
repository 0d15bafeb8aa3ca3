def jn_X5_sack_31 (w0 : Int32) : zAH → Option (Int32 × zAH) := fun h => some (w0, h)
theorem sj_X5_sack_31 (g : zG) (l : Launch) (w0 : Int32) : zSm g l cX5_sack 1 RX5 "sack" (some .int) 1 22 zrI 31 [] [.int w0] (jn_X5_sack_31 w0) := by
  unfold jn_X5_sack_31
  exact z_iret (by decide +kernel)
def dn_X5_sack (v0 : Nat) : zAH → Option (Int32 × zAH) := fun h => (zgO 5 v0 h).bind fun _ => zbd (dn_X5_look v0 0 h) fun x1 h2 => (zgI 5 12 v0 h2).bind fun x3 => if x3 = 0 then jn_X5_sack_31 ((-4)) h2 else zbd (dn_X5_v v0 2 h2) fun x4 h5 => zbd (dn_X5_v v0 1 h5) fun x6 h7 => zbd (dn_X5_tells v0 x4 x6 h7) fun x8 h9 => jn_X5_sack_31 x8 h9
theorem ct_X5_sack (g : zG) (l : Launch) (v0 : Nat) : zCt g l yX5_sack cX5_sack 1 (some .int) 1 22 zrI [.ref v0] (dn_X5_sack v0) := by
  refine zCt_of (lv := [(0, .ref v0)]) (by decide +kernel) (Nat.le_of_ble_eq_true rfl) rfl ?_
  show zSm g l cX5_sack 1 RX5 "sack" (some .int) 1 22 zrI 0 [(0, .ref v0)] [] (dn_X5_sack v0)
  unfold dn_X5_sack
  refine z_rec ?_
  refine z_aload_n (j := 0) (q := 1) (by decide +kernel) rfl 0 rfl ?_
  refine z_iconst (n := 0) (v := 0) (q := 2) (by decide +kernel) rfl (by decide) ?_
  refine z_callVU (As := [.int 0]) (st := []) (q := 5) (ct_X5_look g l v0 0) zm_RX5_153 (rc_X5_look v0 0) rfl (by decide) (by decide) (Nat.le_of_ble_eq_true rfl) rfl (by decide +kernel) rfl fun x1 => ?_
  refine z_aload_n (j := 0) (q := 6) (by decide +kernel) rfl 0 rfl ?_
  refine z_getI (q := 9) zf_RX5_147 (by decide +kernel) rfl fun x3 => ?_
  refine z_if_ne (off := 8) (t := 17) (q := 12) (by decide +kernel) (by decide) rfl ?_ ?_
  · refine z_aload_n (j := 0) (q := 18) (by decide +kernel) rfl 0 rfl ?_
    refine z_aload_n (j := 0) (q := 19) (by decide +kernel) rfl 0 rfl ?_
    refine z_iconst (n := 2) (v := 2) (q := 20) (by decide +kernel) rfl (by decide) ?_
    refine z_callVI (As := [.int 2]) (st := [.ref v0]) (q := 23) (ct_X5_v g l v0 2) zm_RX5_190 (rc_X5_v v0 2) rfl (by decide) (by decide) (Nat.le_of_ble_eq_true rfl) rfl (by decide +kernel) rfl fun x4 => ?_
    refine z_aload_n (j := 0) (q := 24) (by decide +kernel) rfl 0 rfl ?_
    refine z_iconst (n := 1) (v := 1) (q := 25) (by decide +kernel) rfl (by decide) ?_
    refine z_callVI (As := [.int 1]) (st := [.int x4, .ref v0]) (q := 28) (ct_X5_v g l v0 1) zm_RX5_190 (rc_X5_v v0 1) rfl (by decide) (by decide) (Nat.le_of_ble_eq_true rfl) rfl (by decide +kernel) rfl fun x6 => ?_
    refine z_callVI (As := [.int x4, .int x6]) (st := []) (q := 31) (ct_X5_tells g l v0 x4 x6) zm_RX5_108 (rc_X5_tells v0 x4 x6) rfl (by decide) (by decide) (Nat.le_of_ble_eq_true rfl) rfl (by decide +kernel) rfl fun x8 => ?_
    refine zsub [] rfl ?_
    exact sj_X5_sack_31 g l x8
  · refine z_bipush (n := (-4)) (v := (-4)) (q := 14) (by decide +kernel) rfl (by decide) ?_
    refine z_goto (off := 17) (t := 31) (by decide +kernel) (by decide) ?_
    refine zsub [] rfl ?_
    exact sj_X5_sack_31 g l ((-4))
theorem rc_X5_sack (v0 : Nat) : ∀ h x, dn_X5_sack v0 h = some x → ∃ fs, zgO 5 v0 h = some fs := fun h x hd => by
  obtain ⟨fs, e, -⟩ := Option.bind_eq_some_iff.mp hd
  exact ⟨fs, e⟩
def jn_X5_passed_25 (w0 : Int32) : zAH → Option (Int32 × zAH) := fun h => some (w0, h)
theorem sj_X5_passed_25 (g : zG) (l : Launch) (w0 : Int32) : zSm g l cX5_passed 2 RX5 "passed" (some .int) 2 43 zrI 25 [] [.int w0] (jn_X5_passed_25 w0) := by
  unfold jn_X5_passed_25
  exact z_iret (by decide +kernel)
def dn_X5_passed (v0 : Nat) (v1 : Int32) : zAH → Option (Int32 × zAH) := fun h => (zgO 5 v0 h).bind fun _ => zbd (dn_X5_look v0 0 h) fun x1 h2 => zbd (dn_X5_isRunner v0 v1 h2) fun x3 h4 => if x3 = 0 then jn_X5_passed_25 ((-1)) h4 else zbd (dn_X5_v v0 (23 + v1) h4) fun x5 h6 => jn_X5_passed_25 x5 h6
theorem ct_X5_passed (g : zG) (l : Launch) (v0 : Nat) (v1 : Int32) : zCt g l yX5_passed cX5_passed 2 (some .int) 2 43 zrI [.ref v0, .int v1] (dn_X5_passed v0 v1) := by
  refine zCt_of (lv := [(0, .ref v0), (1, .int v1)]) (by decide +kernel) (Nat.le_of_ble_eq_true rfl) rfl ?_
  show zSm g l cX5_passed 2 RX5 "passed" (some .int) 2 43 zrI 0 [(0, .ref v0), (1, .int v1)] [] (dn_X5_passed v0 v1)
  unfold dn_X5_passed
  refine z_rec ?_
  refine z_aload_n (j := 0) (q := 1) (by decide +kernel) rfl 0 rfl ?_
  refine z_iconst (n := 0) (v := 0) (q := 2) (by decide +kernel) rfl (by decide) ?_
  refine z_callVU (As := [.int 0]) (st := []) (q := 5) (ct_X5_look g l v0 0) zm_RX5_153 (rc_X5_look v0 0) rfl (by decide) (by decide) (Nat.le_of_ble_eq_true rfl) rfl (by decide +kernel) rfl fun x1 => ?_
  refine z_aload_n (j := 0) (q := 6) (by decide +kernel) rfl 0 rfl ?_
  refine z_iload_n (j := 1) (q := 7) (by decide +kernel) rfl 1 rfl ?_
  refine z_callVI (As := [.int v1]) (st := []) (q := 10) (ct_X5_isRunner g l v0 v1) zm_RX5_160 (rc_X5_isRunner v0 v1) rfl (by decide) (by decide) (Nat.le_of_ble_eq_true rfl) rfl (by decide +kernel) rfl fun x3 => ?_
  refine z_if_eq (off := 14) (t := 24) (q := 13) (by decide +kernel) (by decide) rfl ?_ ?_
  · refine z_iconst (n := (-1)) (v := (-1)) (q := 25) (by decide +kernel) rfl (by decide) ?_
    refine zsub [] rfl ?_
    exact sj_X5_passed_25 g l ((-1))
  · refine z_aload_n (j := 0) (q := 14) (by decide +kernel) rfl 0 rfl ?_
    refine z_bipush (n := 23) (v := 23) (q := 16) (by decide +kernel) rfl (by decide) ?_
    refine z_iload_n (j := 1) (q := 17) (by decide +kernel) rfl 1 rfl ?_
    refine z_iadd (q := 18) (by decide +kernel) rfl ?_
    refine z_callVI (As := [.int (23 + v1)]) (st := []) (q := 21) (ct_X5_v g l v0 (23 + v1)) zm_RX5_190 (rc_X5_v v0 (23 + v1)) rfl (by decide) (by decide) (Nat.le_of_ble_eq_true rfl) rfl (by decide +kernel) rfl fun x5 => ?_
    refine z_goto (off := 4) (t := 25) (by decide +kernel) (by decide) ?_
    refine zsub [] rfl ?_
    exact sj_X5_passed_25 g l x5
theorem rc_X5_passed (v0 : Nat) (v1 : Int32) : ∀ h x, dn_X5_passed v0 v1 h = some x → ∃ fs, zgO 5 v0 h = some fs := fun h x hd => by
  obtain ⟨fs, e, -⟩ := Option.bind_eq_some_iff.mp hd
  exact ⟨fs, e⟩
def dn_X5_keep (v0 : Nat) (v1 : Int32) : zAH → Option (Int32 × zAH) := fun h => (zgO 5 v0 h).bind fun _ => zbd (dn_X5_in v1 0 2 h) fun x1 h2 => if x1 = 0 then some ((-1), h2) else (zgI 5 10 v0 h2).bind fun x3 => if x3 = 0 then some ((-4), h2) else zbd (dn_X5_copyRace v0 0 (1 + v1) h2) fun x4 h5 => (zgA 5 27 v0 h5).bind fun x6 => (zaS 2 x6 (1 + v1) (1 &&& 1) h5).bind fun h7 => zbd (dn_X5_look v0 0 h7) fun x8 h9 => zbd (dn_X5_v v0 0 h9) fun x10 h11 => some (x10, h11)
theorem ct_X5_keep (g : zG) (l : Launch) (v0 : Nat) (v1 : Int32) : zCt g l yX5_keep cX5_keep 2 (some .int) 1 23 zrI [.ref v0, .int v1] (dn_X5_keep v0 v1) := by
  refine zCt_of (lv := [(0, .ref v0), (1, .int v1)]) (by decide +kernel) (Nat.le_of_ble_eq_true rfl) rfl ?_
  show zSm g l cX5_keep 2 RX5 "keep" (some .int) 1 23 zrI 0 [(0, .ref v0), (1, .int v1)] [] (dn_X5_keep v0 v1)
  unfold dn_X5_keep
  refine z_rec ?_
  refine z_iload_n (j := 1) (q := 1) (by decide +kernel) rfl 1 rfl ?_
  refine z_iconst (n := 0) (v := 0) (q := 2) (by decide +kernel) rfl (by decide) ?_
  refine z_iconst (n := 2) (v := 2) (q := 3) (by decide +kernel) rfl (by decide) ?_
  refine z_callSI (As := [.int v1, .int 0, .int 2]) (st := []) (q := 6) (ct_X5_in g l v1 0 2) zm_RX5_86 rfl (by decide) (by decide) (Nat.le_of_ble_eq_true rfl) rfl (by decide +kernel) rfl fun x1 => ?_
  refine z_if_ne (off := 5) (t := 11) (q := 9) (by decide +kernel) (by decide) rfl ?_ ?_
  · refine z_aload_n (j := 0) (q := 12) (by decide +kernel) rfl 0 rfl ?_
    refine z_getI (q := 15) zf_RX5_144 (by decide +kernel) rfl fun x3 => ?_
    refine z_if_ne (off := 6) (t := 21) (q := 18) (by decide +kernel) (by decide) rfl ?_ ?_
    · refine z_aload_n (j := 0) (q := 22) (by decide +kernel) rfl 0 rfl ?_
      refine z_iconst (n := 0) (v := 0) (q := 23) (by decide +kernel) rfl (by decide) ?_
      refine z_iconst (n := 1) (v := 1) (q := 24) (by decide +kernel) rfl (by decide) ?_
      refine z_iload_n (j := 1) (q := 25) (by decide +kernel) rfl 1 rfl ?_
      refine z_iadd (q := 26) (by decide +kernel) rfl ?_
      refine z_callVU (As := [.int 0, .int (1 + v1)]) (st := []) (q := 29) (ct_X5_copyRace g l v0 0 (1 + v1)) zm_RX5_237 (rc_X5_copyRace v0 0 (1 + v1)) rfl (by decide) (by decide) (Nat.le_of_ble_eq_true rfl) rfl (by decide +kernel) rfl fun x4 => ?_
      refine z_aload_n (j := 0) (q := 30) (by decide +kernel) rfl 0 rfl ?_
      refine z_getA (q := 33) zf_RX5_62 (by decide +kernel) rfl fun x6 => ?_
      refine z_iconst (n := 1) (v := 1) (q := 34) (by decide +kernel) rfl (by decide) ?_
      refine z_iload_n (j := 1) (q := 35) (by decide +kernel) rfl 1 rfl ?_
      refine z_iadd (q := 36) (by decide +kernel) rfl ?_
      refine z_iconst (n := 1) (v := 1) (q := 37) (by decide +kernel) rfl (by decide) ?_
      refine z_iast (q := 38) (Or.inr (Or.inr ⟨rfl, rfl, rfl⟩)) (by decide +kernel) rfl ?_
      refine z_aload_n (j := 0) (q := 39) (by decide +kernel) rfl 0 rfl ?_
      refine z_iconst (n := 0) (v := 0) (q := 40) (by decide +kernel) rfl (by decide) ?_
      refine z_callVU (As := [.int 0]) (st := []) (q := 43) (ct_X5_look g l v0 0) zm_RX5_153 (rc_X5_look v0 0) rfl (by decide) (by decide) (Nat.le_of_ble_eq_true rfl) rfl (by decide +kernel) rfl fun x8 => ?_
      refine z_aload_n (j := 0) (q := 44) (by decide +kernel) rfl 0 rfl ?_
      refine z_iconst (n := 0) (v := 0) (q := 45) (by decide +kernel) rfl (by decide) ?_
      refine z_callVI (As := [.int 0]) (st := []) (q := 48) (ct_X5_v g l v0 0) zm_RX5_190 (rc_X5_v v0 0) rfl (by decide) (by decide) (Nat.le_of_ble_eq_true rfl) rfl (by decide +kernel) rfl fun x10 => ?_
      exact z_iret (by decide +kernel)
    · refine z_bipush (n := (-4)) (v := (-4)) (q := 20) (by decide +kernel) rfl (by decide) ?_
      exact z_iret (by decide +kernel)
  · refine z_iconst (n := (-1)) (v := (-1)) (q := 10) (by decide +kernel) rfl (by decide) ?_
    exact z_iret (by decide +kernel)
theorem rc_X5_keep (v0 : Nat) (v1 : Int32) : ∀ h x, dn_X5_keep v0 v1 h = some x → ∃ fs, zgO 5 v0 h = some fs := fun h x hd => by
  obtain ⟨fs, e, -⟩ := Option.bind_eq_some_iff.mp hd
  exact ⟨fs, e⟩
def dn_X5_on (v0 : Nat) (v1 : Int32) : zAH → Option (Int32 × zAH) := fun h => (zgO 5 v0 h).bind fun _ => zbd (dn_X5_in v1 0 2 h) fun x1 h2 => if x1 = 0 then some ((-1), h2) else (zgA 5 27 v0 h2).bind fun x3 => (zaI 2 x3 (1 + v1) h2).bind fun x4 => if x4 = 0 then zbd (dn_X5_meets v0 1 h2) fun x11 h12 => some (x11, h12) else zbd (dn_X5_copyRace v0 (1 + v1) 0 h2) fun x5 h6 => zbd (dn_X5_look v0 0 h6) fun x7 h8 => zbd (dn_X5_v v0 0 h8) fun x9 h10 => some (x9, h10)
theorem ct_X5_on (g : zG) (l : Launch) (v0 : Nat) (v1 : Int32) : zCt g l yX5_on cX5_on 2 (some .int) 1 23 zrI [.ref v0, .int v1] (dn_X5_on v0 v1) := by
  refine zCt_of (lv := [(0, .ref v0), (1, .int v1)]) (by decide +kernel) (Nat.le_of_ble_eq_true rfl) rfl ?_
  show zSm g l cX5_on 2 RX5 "on" (some .int) 1 23 zrI 0 [(0, .ref v0), (1, .int v1)] [] (dn_X5_on v0 v1)
  unfold dn_X5_on
  refine z_rec ?_
  refine z_iload_n (j := 1) (q := 1) (by decide +kernel) rfl 1 rfl ?_
  refine z_iconst (n := 0) (v := 0) (q := 2) (by decide +kernel) rfl (by decide) ?_
  refine z_iconst (n := 2) (v := 2) (q := 3) (by decide +kernel) rfl (by decide) ?_
  refine z_callSI (As := [.int v1, .int 0, .int 2]) (st := []) (q := 6) (ct_X5_in g l v1 0 2) zm_RX5_86 rfl (by decide) (by decide) (Nat.le_of_ble_eq_true rfl) rfl (by decide +kernel) rfl fun x1 => ?_
  refine z_if_ne (off := 5) (t := 11) (q := 9) (by decide +kernel) (by decide) rfl ?_ ?_
  · refine z_aload_n (j := 0) (q := 12) (by decide +kernel) rfl 0 rfl ?_
    refine z_getA (q := 15) zf_RX5_62 (by decide +kernel) rfl fun x3 => ?_
    refine z_iconst (n := 1) (v := 1) (q := 16) (by decide +kernel) rfl (by decide) ?_
    refine z_iload_n (j := 1) (q := 17) (by decide +kernel) rfl 1 rfl ?_
    refine z_iadd (q := 18) (by decide +kernel) rfl ?_
    refine z_iald (q := 19) (Or.inr (Or.inr ⟨rfl, rfl⟩)) (by decide +kernel) rfl fun x4 => ?_
    refine z_if_ne (off := 9) (t := 28) (q := 22) (by decide +kernel) (by decide) rfl ?_ ?_
    · refine z_aload_n (j := 0) (q := 29) (by decide +kernel) rfl 0 rfl ?_
      refine z_iconst (n := 1) (v := 1) (q := 30) (by decide +kernel) rfl (by decide) ?_
      refine z_iload_n (j := 1) (q := 31) (by decide +kernel) rfl 1 rfl ?_
      refine z_iadd (q := 32) (by decide +kernel) rfl ?_
      refine z_iconst (n := 0) (v := 0) (q := 33) (by decide +kernel) rfl (by decide) ?_
      refine z_callVU (As := [.int (1 + v1), .int 0]) (st := []) (q := 36) (ct_X5_copyRace g l v0 (1 + v1) 0) zm_RX5_237 (rc_X5_copyRace v0 (1 + v1) 0) rfl (by decide) (by decide) (Nat.le_of_ble_eq_true rfl) rfl (by decide +kernel) rfl fun x5 => ?_
      refine z_aload_n (j := 0) (q := 37) (by decide +kernel) rfl 0 rfl ?_
      refine z_iconst (n := 0) (v := 0) (q := 38) (by decide +kernel) rfl (by decide) ?_
      refine z_callVU (As := [.int 0]) (st := []) (q := 41) (ct_X5_look g l v0 0) zm_RX5_153 (rc_X5_look v0 0) rfl (by decide) (by decide) (Nat.le_of_ble_eq_true rfl) rfl (by decide +kernel) rfl fun x7 => ?_
      refine z_aload_n (j := 0) (q := 42) (by decide +kernel) rfl 0 rfl ?_
      refine z_iconst (n := 0) (v := 0) (q := 43) (by decide +kernel) rfl (by decide) ?_
      refine z_callVI (As := [.int 0]) (st := []) (q := 46) (ct_X5_v g l v0 0) zm_RX5_190 (rc_X5_v v0 0) rfl (by decide) (by decide) (Nat.le_of_ble_eq_true rfl) rfl (by decide +kernel) rfl fun x9 => ?_
      exact z_iret (by decide +kernel)
    · refine z_aload_n (j := 0) (q := 23) (by decide +kernel) rfl 0 rfl ?_
      refine z_iconst (n := 1) (v := 1) (q := 24) (by decide +kernel) rfl (by decide) ?_
      refine z_callVI (As := [.int 1]) (st := []) (q := 27) (ct_X5_meets g l v0 1) zm_RX5_100 (rc_X5_meets v0 1) rfl (by decide) (by decide) (Nat.le_of_ble_eq_true rfl) rfl (by decide +kernel) rfl fun x11 => ?_
      exact z_iret (by decide +kernel)
  · refine z_iconst (n := (-1)) (v := (-1)) (q := 10) (by decide +kernel) rfl (by decide) ?_
    exact z_iret (by decide +kernel)
theorem rc_X5_on (v0 : Nat) (v1 : Int32) : ∀ h x, dn_X5_on v0 v1 h = some x → ∃ fs, zgO 5 v0 h = some fs := fun h x hd => by
  obtain ⟨fs, e, -⟩ := Option.bind_eq_some_iff.mp hd
  exact ⟨fs, e⟩
def dn_X5_layEnd (v0 : Nat) : zAH → Option (Unit × zAH) := fun h => (zgO 5 v0 h).bind fun _ => zbd (dn_X5_copyRace v0 0 4 h) fun x1 h2 => zbd (dn_X5_look v0 4 h2) fun x3 h4 => zbd (dn_X5_toEnd v0 h4) fun x5 h6 => some ((), h6)
theorem ct_X5_layEnd (g : zG) (l : Launch) (v0 : Nat) : zCt g l yX5_layEnd cX5_layEnd 1 none 6 134 zrV [.ref v0] (dn_X5_layEnd v0) := by
  refine zCt_of (lv := [(0, .ref v0)]) (by decide +kernel) (Nat.le_of_ble_eq_true rfl) rfl ?_
  show zSm g l cX5_layEnd 1 RX5 "layEnd" none 6 134 zrV 0 [(0, .ref v0)] [] (dn_X5_layEnd v0)
  unfold dn_X5_layEnd
  refine z_rec ?_
  refine z_aload_n (j := 0) (q := 1) (by decide +kernel) rfl 0 rfl ?_
  refine z_iconst (n := 0) (v := 0) (q := 2) (by decide +kernel) rfl (by decide) ?_
  refine z_iconst (n := 4) (v := 4) (q := 3) (by decide +kernel) rfl (by decide) ?_
  refine z_callVU (As := [.int 0, .int 4]) (st := []) (q := 6) (ct_X5_copyRace g l v0 0 4) zm_RX5_237 (rc_X5_copyRace v0 0 4) rfl (by decide) (by decide) (Nat.le_of_ble_eq_true rfl) rfl (by decide +kernel) rfl fun x1 => ?_
  refine z_aload_n (j := 0) (q := 7) (by decide +kernel) rfl 0 rfl ?_
  refine z_iconst (n := 4) (v := 4) (q := 8) (by decide +kernel) rfl (by decide) ?_
  refine z_callVU (As := [.int 4]) (st := []) (q := 11) (ct_X5_look g l v0 4) zm_RX5_153 (rc_X5_look v0 4) rfl (by decide) (by decide) (Nat.le_of_ble_eq_true rfl) rfl (by decide +kernel) rfl fun x3 => ?_
  refine z_aload_n (j := 0) (q := 12) (by decide +kernel) rfl 0 rfl ?_
  refine z_callVU (As := []) (st := []) (q := 15) (ct_X5_toEnd g l v0) zm_RX5_240 (rc_X5_toEnd v0) rfl (by decide) (by decide) (Nat.le_of_ble_eq_true rfl) rfl (by decide +kernel) rfl fun x5 => ?_
  exact z_vret (by decide +kernel)
theorem rc_X5_layEnd (v0 : Nat) : ∀ h x, dn_X5_layEnd v0 h = some x → ∃ fs, zgO 5 v0 h = some fs := fun h x hd => by
  obtain ⟨fs, e, -⟩ := Option.bind_eq_some_iff.mp hd
  exact ⟨fs, e⟩
def dn_X5_pays (v0 : Nat) : zAH → Option (Int32 × zAH) := fun h => (zgO 5 v0 h).bind fun _ => (zgI 5 12 v0 h).bind fun x1 => if x1 = 0 then some ((-4), h) else zbd (dn_X5_noChoices v0 h) fun x2 h3 => zbd (dn_X5_layEnd v0 h3) fun x4 h5 => zbd (dn_X5_v v0 0 h5) fun x6 h7 => zbd (dn_X5_v v0 1 h7) fun x8 h9 => zbd (dn_X5_tells v0 x6 x8 h9) fun x10 h11 => some (x10, h11)
theorem ct_X5_pays (g : zG) (l : Launch) (v0 : Nat) : zCt g l yX5_pays cX5_pays 1 (some .int) 7 154 zrI [.ref v0] (dn_X5_pays v0) := by
  refine zCt_of (lv := [(0, .ref v0)]) (by decide +kernel) (Nat.le_of_ble_eq_true rfl) rfl ?_
  show zSm g l cX5_pays 1 RX5 "pays" (some .int) 7 154 zrI 0 [(0, .ref v0)] [] (dn_X5_pays v0)
  unfold dn_X5_pays
  refine z_rec ?_
  refine z_aload_n (j := 0) (q := 1) (by decide +kernel) rfl 0 rfl ?_
  refine z_getI (q := 4) zf_RX5_147 (by decide +kernel) rfl fun x1 => ?_
  refine z_if_ne (off := 6) (t := 10) (q := 7) (by decide +kernel) (by decide) rfl ?_ ?_
  · refine z_aload_n (j := 0) (q := 11) (by decide +kernel) rfl 0 rfl ?_
    refine z_callVU (As := []) (st := []) (q := 14) (ct_X5_noChoices g l v0) zm_RX5_224 (rc_X5_noChoices v0) rfl (by decide) (by decide) (Nat.le_of_ble_eq_true rfl) rfl (by decide +kernel) rfl fun x2 => ?_
    refine z_aload_n (j := 0) (q := 15) (by decide +kernel) rfl 0 rfl ?_
    refine z_callVU (As := []) (st := []) (q := 18) (ct_X5_layEnd g l v0) zm_RX5_243 (rc_X5_layEnd v0) rfl (by decide) (by decide) (Nat.le_of_ble_eq_true rfl) rfl (by decide +kernel) rfl fun x4 => ?_
    refine z_aload_n (j := 0) (q := 19) (by decide +kernel) rfl 0 rfl ?_
    refine z_aload_n (j := 0) (q := 20) (by decide +kernel) rfl 0 rfl ?_
    refine z_iconst (n := 0) (v := 0) (q := 21) (by decide +kernel) rfl (by decide) ?_
    refine z_callVI (As := [.int 0]) (st := [.ref v0]) (q := 24) (ct_X5_v g l v0 0) zm_RX5_190 (rc_X5_v v0 0) rfl (by decide) (by decide) (Nat.le_of_ble_eq_true rfl) rfl (by decide +kernel) rfl fun x6 => ?_
    refine z_aload_n (j := 0) (q := 25) (by decide +kernel) rfl 0 rfl ?_
    refine z_iconst (n := 1) (v := 1) (q := 26) (by decide +kernel) rfl (by decide) ?_
    refine z_callVI (As := [.int 1]) (st := [.int x6, .ref v0]) (q := 29) (ct_X5_v g l v0 1) zm_RX5_190 (rc_X5_v v0 1) rfl (by decide) (by decide) (Nat.le_of_ble_eq_true rfl) rfl (by decide +kernel) rfl fun x8 => ?_
    refine z_callVI (As := [.int x6, .int x8]) (st := []) (q := 32) (ct_X5_tells g l v0 x6 x8) zm_RX5_108 (rc_X5_tells v0 x6 x8) rfl (by decide) (by decide) (Nat.le_of_ble_eq_true rfl) rfl (by decide +kernel) rfl fun x10 => ?_
    exact z_iret (by decide +kernel)
  · refine z_bipush (n := (-4)) (v := (-4)) (q := 9) (by decide +kernel) rfl (by decide) ?_
    exact z_iret (by decide +kernel)
theorem rc_X5_pays (v0 : Nat) : ∀ h x, dn_X5_pays v0 h = some x → ∃ fs, zgO 5 v0 h = some fs := fun h x hd => by
  obtain ⟨fs, e, -⟩ := Option.bind_eq_some_iff.mp hd
  exact ⟨fs, e⟩
def jn_X5_ranks_97 (kc41 : (Int32 × Int32) → zAH → Option (Int32 × zAH)) (v0 : Nat) (v1 : Int32) (v3 : Int32) (w0 : Int32) : zAH → Option (Int32 × zAH) := fun h => kc41 (w0, v3 + 1) h
theorem sj_X5_ranks_97 (g : zG) (l : Launch) (kc41 : (Int32 × Int32) → zAH → Option (Int32 × zAH)) (v0 : Nat) (v1 : Int32) (v3 : Int32) (w0 : Int32) (hkc41 : ∀ s, zSm g l cX5_ranks 4 RX5 "ranks" (some .int) 7 154 zrI 41 [(0, .ref v0), (1, .int v1), (2, .int s.1), (3, .int s.2)] [] (kc41 s)) : zSm g l cX5_ranks 4 RX5 "ranks" (some .int) 7 154 zrI 97 [(0, .ref v0), (1, .int v1), (3, .int v3)] [.int w0] (jn_X5_ranks_97 kc41 v0 v1 v3 w0) := by
  unfold jn_X5_ranks_97
  refine z_istore_n (j := 2) (q := 98) (by decide +kernel) rfl (by decide) rfl ?_
  refine z_iinc (j := 3) (n := 1) (v := 1) (q := 101) (by decide +kernel) rfl 3 rfl (by decide) (by decide) rfl ?_
  refine z_goto (off := (-60)) (t := 41) (by decide +kernel) (by decide) ?_
  refine zsub [2, 3, 1, 0] rfl ?_
  exact hkc41 (w0, v3 + 1)
def jn_X5_ranks_96 (kc41 : (Int32 × Int32) → zAH → Option (Int32 × zAH)) (v0 : Nat) (v1 : Int32) (v2 : Int32) (v3 : Int32) : zAH → Option (Int32 × zAH) := fun h => jn_X5_ranks_97 kc41 v0 v1 v3 v2 h
theorem sj_X5_ranks_96 (g : zG) (l : Launch) (kc41 : (Int32 × Int32) → zAH → Option (Int32 × zAH)) (v0 : Nat) (v1 : Int32) (v2 : Int32) (v3 : Int32) (hkc41 : ∀ s, zSm g l cX5_ranks 4 RX5 "ranks" (some .int) 7 154 zrI 41 [(0, .ref v0), (1, .int v1), (2, .int s.1), (3, .int s.2)] [] (kc41 s)) : zSm g l cX5_ranks 4 RX5 "ranks" (some .int) 7 154 zrI 96 [(0, .ref v0), (1, .int v1), (2, .int v2), (3, .int v3)] [] (jn_X5_ranks_96 kc41 v0 v1 v2 v3) := by
  unfold jn_X5_ranks_96
  refine z_iload_n (j := 2) (q := 97) (by decide +kernel) rfl 2 rfl ?_
  refine zsub [0, 1, 3] rfl ?_
  exact sj_X5_ranks_97 g l kc41 v0 v1 v3 v2 hkc41
def jn_X5_ranks_74 (kc41 : (Int32 × Int32) → zAH → Option (Int32 × zAH)) (v0 : Nat) (v1 : Int32) (v2 : Int32) (v3 : Int32) (w0 : Nat) (w1 : Int32) (w2 : Int32) : zAH → Option (Int32 × zAH) := fun h => (zaS 0 w0 w1 w2 h).bind fun h1 => (zgI 5 12 v0 h1).bind fun x2 => if v3 < x2 then zbd (dn_X5_rankOf v0 v3 h1) fun x3 h4 => if x3 = 1 then jn_X5_ranks_97 kc41 v0 v1 v3 v3 h4 else jn_X5_ranks_96 kc41 v0 v1 v2 v3 h4 else jn_X5_ranks_96 kc41 v0 v1 v2 v3 h1
theorem sj_X5_ranks_74 (g : zG) (l : Launch) (kc41 : (Int32 × Int32) → zAH → Option (Int32 × zAH)) (v0 : Nat) (v1 : Int32) (v2 : Int32) (v3 : Int32) (w0 : Nat) (w1 : Int32) (w2 : Int32) (hkc41 : ∀ s, zSm g l cX5_ranks 4 RX5 "ranks" (some .int) 7 154 zrI 41 [(0, .ref v0), (1, .int v1), (2, .int s.1), (3, .int s.2)] [] (kc41 s)) : zSm g l cX5_ranks 4 RX5 "ranks" (some .int) 7 154 zrI 74 [(0, .ref v0), (1, .int v1), (2, .int v2), (3, .int v3)] [.int w2, .int w1, .ref w0] (jn_X5_ranks_74 kc41 v0 v1 v2 v3 w0 w1 w2) := by
  unfold jn_X5_ranks_74
  refine z_iast (q := 75) (Or.inl ⟨rfl, rfl, rfl⟩) (by decide +kernel) rfl ?_
  refine z_iload_n (j := 3) (q := 76) (by decide +kernel) rfl 3 rfl ?_
  refine z_aload_n (j := 0) (q := 77) (by decide +kernel) rfl 0 rfl ?_
  refine z_getI (q := 80) zf_RX5_147 (by decide +kernel) rfl fun x2 => ?_
  refine z_icmp_ge (off := 16) (t := 96) (q := 83) (by decide +kernel) (by decide) rfl ?_ ?_
  · refine zsub [0, 1, 2, 3] rfl ?_
    exact sj_X5_ranks_96 g l kc41 v0 v1 v2 v3 hkc41
  · refine z_aload_n (j := 0) (q := 84) (by decide +kernel) rfl 0 rfl ?_
    refine z_iload_n (j := 3) (q := 85) (by decide +kernel) rfl 3 rfl ?_
    refine z_callVI (As := [.int v3]) (st := []) (q := 88) (ct_X5_rankOf g l v0 v3) zm_RX5_231 (rc_X5_rankOf v0 v3) rfl (by decide) (by decide) (Nat.le_of_ble_eq_true rfl) rfl (by decide +kernel) rfl fun x3 => ?_
    refine z_iconst (n := 1) (v := 1) (q := 89) (by decide +kernel) rfl (by decide) ?_
    refine z_icmp_ne (off := 7) (t := 96) (q := 92) (by decide +kernel) (by decide) rfl ?_ ?_
    · refine zsub [0, 1, 2, 3] rfl ?_
      exact sj_X5_ranks_96 g l kc41 v0 v1 v2 v3 hkc41
    · refine z_iload_n (j := 3) (q := 93) (by decide +kernel) rfl 3 rfl ?_
      refine z_goto (off := 4) (t := 97) (by decide +kernel) (by decide) ?_
      refine zsub [0, 1, 3] rfl ?_
      exact sj_X5_ranks_97 g l kc41 v0 v1 v3 v3 hkc41
def jn_X5_ranks_104 (v2 : Int32) : zAH → Option (Int32 × zAH) := fun h => some (v2, h)
theorem sj_X5_ranks_104 (g : zG) (l : Launch) (v2 : Int32) : zSm g l cX5_ranks 4 RX5 "ranks" (some .int) 7 154 zrI 104 [(2, .int v2)] [] (jn_X5_ranks_104 v2) := by
  unfold jn_X5_ranks_104
  refine z_iload_n (j := 2) (q := 105) (by decide +kernel) rfl 0 rfl ?_
  exact z_iret (by decide +kernel)
def lb_X5_ranks_41 (v0 : Nat) (v1 : Int32) (rec : (Int32 × Int32) → zAH → Option (Int32 × zAH)) (s : Int32 × Int32) : zAH → Option (Int32 × zAH) := fun h => if s.2 < 60 then (zgA 5 6 v0 h).bind fun x1 => (zgI 5 12 v0 h).bind fun x2 => if s.2 < x2 then zbd (dn_X5_rankOf v0 s.2 h) fun x3 h4 => jn_X5_ranks_74 rec v0 v1 s.1 s.2 x1 ((60 * v1) + s.2) x3 h4 else jn_X5_ranks_74 rec v0 v1 s.1 s.2 x1 ((60 * v1) + s.2) 0 h else jn_X5_ranks_104 s.1 h
def lp_X5_ranks_41 (v0 : Nat) (v1 : Int32) (s : Int32 × Int32) : zAH → Option (Int32 × zAH) := zlp (lb_X5_ranks_41 v0 v1) 2000 s
theorem sl_X5_ranks_41 (g : zG) (l : Launch) (v0 : Nat) (v1 : Int32) (s : Int32 × Int32) : zSm g l cX5_ranks 4 RX5 "ranks" (some .int) 7 154 zrI 41 [(0, .ref v0), (1, .int v1), (2, .int s.1), (3, .int s.2)] [] (lp_X5_ranks_41 v0 v1 s) := by
  unfold lp_X5_ranks_41
  refine z_loop (lvf := fun s => [(0, .ref v0), (1, .int v1), (2, .int s.1), (3, .int s.2)]) (fun rec hrec s => ?_) 2000 s
  unfold lb_X5_ranks_41
  refine z_iload_n (j := 3) (q := 42) (by decide +kernel) rfl 3 rfl ?_
  refine z_bipush (n := 60) (v := 60) (q := 44) (by decide +kernel) rfl (by decide) ?_
  refine z_icmp_ge (off := 60) (t := 104) (q := 47) (by decide +kernel) (by decide) rfl ?_ ?_
  · refine zsub [2] rfl ?_
    exact sj_X5_ranks_104 g l s.1
  · refine z_aload_n (j := 0) (q := 48) (by decide +kernel) rfl 0 rfl ?_
    refine z_getA (q := 51) zf_RX5_16 (by decide +kernel) rfl fun x1 => ?_
    refine z_bipush (n := 60) (v := 60) (q := 53) (by decide +kernel) rfl (by decide) ?_
    refine z_iload_n (j := 1) (q := 54) (by decide +kernel) rfl 1 rfl ?_
    refine z_imul (q := 55) (by decide +kernel) rfl ?_
    refine z_iload_n (j := 3) (q := 56) (by decide +kernel) rfl 3 rfl ?_
    refine z_iadd (q := 57) (by decide +kernel) rfl ?_
    refine z_iload_n (j := 3) (q := 58) (by decide +kernel) rfl 3 rfl ?_
    refine z_aload_n (j := 0) (q := 59) (by decide +kernel) rfl 0 rfl ?_
    refine z_getI (q := 62) zf_RX5_147 (by decide +kernel) rfl fun x2 => ?_
    refine z_icmp_ge (off := 11) (t := 73) (q := 65) (by decide +kernel) (by decide) rfl ?_ ?_
    · refine z_iconst (n := 0) (v := 0) (q := 74) (by decide +kernel) rfl (by decide) ?_
      refine zsub [0, 1, 2, 3] rfl ?_
      exact sj_X5_ranks_74 g l rec v0 v1 s.1 s.2 x1 ((60 * v1) + s.2) 0 hrec
    · refine z_aload_n (j := 0) (q := 66) (by decide +kernel) rfl 0 rfl ?_
      refine z_iload_n (j := 3) (q := 67) (by decide +kernel) rfl 3 rfl ?_
      refine z_callVI (As := [.int s.2]) (st := [.int ((60 * v1) + s.2), .ref x1]) (q := 70) (ct_X5_rankOf g l v0 s.2) zm_RX5_231 (rc_X5_rankOf v0 s.2) rfl (by decide) (by decide) (Nat.le_of_ble_eq_true rfl) rfl (by decide +kernel) rfl fun x3 => ?_
      refine z_goto (off := 4) (t := 74) (by decide +kernel) (by decide) ?_
      refine zsub [0, 1, 2, 3] rfl ?_
      exact sj_X5_ranks_74 g l rec v0 v1 s.1 s.2 x1 ((60 * v1) + s.2) x3 hrec
def dn_X5_ranks (v0 : Nat) (v1 : Int32) : zAH → Option (Int32 × zAH) := fun h => (zgO 5 v0 h).bind fun _ => zbd (dn_X5_isRow v1 h) fun x1 h2 => if x1 = 0 then some ((-1), h2) else (zgI 5 12 v0 h2).bind fun x3 => if x3 = 0 then some ((-4), h2) else zbd (dn_X5_noChoices v0 h2) fun x4 h5 => zbd (dn_X5_layEnd v0 h5) fun x6 h7 => (zgA 5 5 v0 h7).bind fun x8 => (zgI 5 12 v0 h7).bind fun x9 => (zaS 0 x8 v1 x9 h7).bind fun h10 => lp_X5_ranks_41 v0 v1 (0, 0) h10
theorem ct_X5_ranks (g : zG) (l : Launch) (v0 : Nat) (v1 : Int32) : zCt g l yX5_ranks cX5_ranks 4 (some .int) 7 154 zrI [.ref v0, .int v1] (dn_X5_ranks v0 v1) := by
  refine zCt_of (lv := [(0, .ref v0), (1, .int v1)]) (by decide +kernel) (Nat.le_of_ble_eq_true rfl) rfl ?_
  show zSm g l cX5_ranks 4 RX5 "ranks" (some .int) 7 154 zrI 0 [(0, .ref v0), (1, .int v1)] [] (dn_X5_ranks v0 v1)
  unfold dn_X5_ranks
  refine z_rec ?_
  refine z_iload_n (j := 1) (q := 1) (by decide +kernel) rfl 1 rfl ?_
  refine z_callSI (As := [.int v1]) (st := []) (q := 4) (ct_X5_isRow g l v1) zm_RX5_96 rfl (by decide) (by decide) (Nat.le_of_ble_eq_true rfl) rfl (by decide +kernel) rfl fun x1 => ?_
  refine z_if_ne (off := 5) (t := 9) (q := 7) (by decide +kernel) (by decide) rfl ?_ ?_
  · refine z_aload_n (j := 0) (q := 10) (by decide +kernel) rfl 0 rfl ?_
    refine z_getI (q := 13) zf_RX5_147 (by decide +kernel) rfl fun x3 => ?_
    refine z_if_ne (off := 6) (t := 19) (q := 16) (by decide +kernel) (by decide) rfl ?_ ?_
    · refine z_aload_n (j := 0) (q := 20) (by decide +kernel) rfl 0 rfl ?_
      refine z_callVU (As := []) (st := []) (q := 23) (ct_X5_noChoices g l v0) zm_RX5_224 (rc_X5_noChoices v0) rfl (by decide) (by decide) (Nat.le_of_ble_eq_true rfl) rfl (by decide +kernel) rfl fun x4 => ?_
      refine z_aload_n (j := 0) (q := 24) (by decide +kernel) rfl 0 rfl ?_
      refine z_callVU (As := []) (st := []) (q := 27) (ct_X5_layEnd g l v0) zm_RX5_243 (rc_X5_layEnd v0) rfl (by decide) (by decide) (Nat.le_of_ble_eq_true rfl) rfl (by decide +kernel) rfl fun x6 => ?_
      refine z_aload_n (j := 0) (q := 28) (by decide +kernel) rfl 0 rfl ?_
      refine z_getA (q := 31) zf_RX5_13 (by decide +kernel) rfl fun x8 => ?_
      refine z_iload_n (j := 1) (q := 32) (by decide +kernel) rfl 1 rfl ?_
      refine z_aload_n (j := 0) (q := 33) (by decide +kernel) rfl 0 rfl ?_
      refine z_getI (q := 36) zf_RX5_147 (by decide +kernel) rfl fun x9 => ?_
      refine z_iast (q := 37) (Or.inl ⟨rfl, rfl, rfl⟩) (by decide +kernel) rfl ?_
      refine z_iconst (n := 0) (v := 0) (q := 38) (by decide +kernel) rfl (by decide) ?_
      refine z_istore_n (j := 2) (q := 39) (by decide +kernel) rfl (by decide) rfl ?_
      refine z_iconst (n := 0) (v := 0) (q := 40) (by decide +kernel) rfl (by decide) ?_
      refine z_istore_n (j := 3) (q := 41) (by decide +kernel) rfl (by decide) rfl ?_
      refine zsub [2, 3, 1, 0] rfl ?_
      exact sl_X5_ranks_41 g l v0 v1 (0, 0)
    · refine z_bipush (n := (-4)) (v := (-4)) (q := 18) (by decide +kernel) rfl (by decide) ?_
      exact z_iret (by decide +kernel)
  · refine z_iconst (n := (-1)) (v := (-1)) (q := 8) (by decide +kernel) rfl (by decide) ?_
    exact z_iret (by decide +kernel)
theorem rc_X5_ranks (v0 : Nat) (v1 : Int32) : ∀ h x, dn_X5_ranks v0 v1 h = some x → ∃ fs, zgO 5 v0 h = some fs := fun h x hd => by
  obtain ⟨fs, e, -⟩ := Option.bind_eq_some_iff.mp hd
  exact ⟨fs, e⟩
def jn_X5_laws_58 (kc24 : (Int32 × Int32) → zAH → Option (Int32 × zAH)) (v0 : Nat) (v1 : Int32) (v2 : Int32) (v4 : Int32) (w0 : Int32) (w1 : Int32) : zAH → Option (Int32 × zAH) := fun h => kc24 (w0 ||| w1, v4 + 1) h
theorem sj_X5_laws_58 (g : zG) (l : Launch) (kc24 : (Int32 × Int32) → zAH → Option (Int32 × zAH)) (v0 : Nat) (v1 : Int32) (v2 : Int32) (v4 : Int32) (w0 : Int32) (w1 : Int32) (hkc24 : ∀ s, zSm g l cX5_laws 5 RX5 "laws" (some .int) 7 154 zrI 24 [(0, .ref v0), (1, .int v1), (2, .int v2), (3, .int s.1), (4, .int s.2)] [] (kc24 s)) : zSm g l cX5_laws 5 RX5 "laws" (some .int) 7 154 zrI 58 [(0, .ref v0), (1, .int v1), (2, .int v2), (4, .int v4)] [.int w1, .int w0] (jn_X5_laws_58 kc24 v0 v1 v2 v4 w0 w1) := by
  unfold jn_X5_laws_58
  refine z_ior (q := 59) (by decide +kernel) rfl ?_
  refine z_istore_n (j := 3) (q := 60) (by decide +kernel) rfl (by decide) rfl ?_
  refine z_iinc (j := 4) (n := 1) (v := 1) (q := 63) (by decide +kernel) rfl 4 rfl (by decide) (by decide) rfl ?_
  refine z_goto (off := (-39)) (t := 24) (by decide +kernel) (by decide) ?_
  refine zsub [2, 3, 4, 1, 0] rfl ?_
  exact hkc24 (w0 ||| w1, v4 + 1)
def jn_X5_laws_66 (v0 : Nat) (v2 : Int32) (v3 : Int32) : zAH → Option (Int32 × zAH) := fun h => (zpF 5 18 v0 (.int v2) h).bind fun h1 => some (v3, h1)
theorem sj_X5_laws_66 (g : zG) (l : Launch) (v0 : Nat) (v2 : Int32) (v3 : Int32) : zSm g l cX5_laws 5 RX5 "laws" (some .int) 7 154 zrI 66 [(0, .ref v0), (2, .int v2), (3, .int v3)] [] (jn_X5_laws_66 v0 v2 v3) := by
  unfold jn_X5_laws_66
  refine z_aload_n (j := 0) (q := 67) (by decide +kernel) rfl 0 rfl ?_
  refine z_iload_n (j := 2) (q := 68) (by decide +kernel) rfl 1 rfl ?_
  refine z_putV (q := 71) zp_RX5_150 (fun z => by cases z) rfl rfl (by decide +kernel) rfl ?_
  refine z_iload_n (j := 3) (q := 72) (by decide +kernel) rfl 2 rfl ?_
  exact z_iret (by decide +kernel)
def lb_X5_laws_24 (v0 : Nat) (v1 : Int32) (v2 : Int32) (rec : (Int32 × Int32) → zAH → Option (Int32 × zAH)) (s : Int32 × Int32) : zAH → Option (Int32 × zAH) := fun h => if s.2 < 3 then (zpF 5 18 v0 (.int s.2) h).bind fun h1 => zbd (dn_X5_layEnd v0 h1) fun x2 h3 => zbd (dn_X5_v v0 1 h3) fun x4 h5 => if x4 = v1 then jn_X5_laws_58 rec v0 v1 v2 s.2 s.1 (1 <<< (s.2 &&& 31)) h5 else jn_X5_laws_58 rec v0 v1 v2 s.2 s.1 0 h5 else jn_X5_laws_66 v0 v2 s.1 h
def lp_X5_laws_24 (v0 : Nat) (v1 : Int32) (v2 : Int32) (s : Int32 × Int32) : zAH → Option (Int32 × zAH) := zlp (lb_X5_laws_24 v0 v1 v2) 2000 s
theorem sl_X5_laws_24 (g : zG) (l : Launch) (v0 : Nat) (v1 : Int32) (v2 : Int32) (s : Int32 × Int32) : zSm g l cX5_laws 5 RX5 "laws" (some .int) 7 154 zrI 24 [(0, .ref v0), (1, .int v1), (2, .int v2), (3, .int s.1), (4, .int s.2)] [] (lp_X5_laws_24 v0 v1 v2 s) := by
  unfold lp_X5_laws_24
  refine z_loop (lvf := fun s => [(0, .ref v0), (1, .int v1), (2, .int v2), (3, .int s.1), (4, .int s.2)]) (fun rec hrec s => ?_) 2000 s
  unfold lb_X5_laws_24
  refine z_iload (j := 4) (q := 26) (by decide +kernel) rfl 4 rfl ?_
  refine z_iconst (n := 3) (v := 3) (q := 27) (by decide +kernel) rfl (by decide) ?_
  refine z_icmp_ge (off := 39) (t := 66) (q := 30) (by decide +kernel) (by decide) rfl ?_ ?_
  · refine zsub [0, 2, 3] rfl ?_
    exact sj_X5_laws_66 g l v0 v2 s.1
  · refine z_aload_n (j := 0) (q := 31) (by decide +kernel) rfl 0 rfl ?_
    refine z_iload (j := 4) (q := 33) (by decide +kernel) rfl 4 rfl ?_
    refine z_putV (q := 36) zp_RX5_150 (fun z => by cases z) rfl rfl (by decide +kernel) rfl ?_
    refine z_aload_n (j := 0) (q := 37) (by decide +kernel) rfl 0 rfl ?_
    refine z_callVU (As := []) (st := []) (q := 40) (ct_X5_layEnd g l v0) zm_RX5_243 (rc_X5_layEnd v0) rfl (by decide) (by decide) (Nat.le_of_ble_eq_true rfl) rfl (by decide +kernel) rfl fun x2 => ?_
    refine z_iload_n (j := 3) (q := 41) (by decide +kernel) rfl 3 rfl ?_
    refine z_aload_n (j := 0) (q := 42) (by decide +kernel) rfl 0 rfl ?_
    refine z_iconst (n := 1) (v := 1) (q := 43) (by decide +kernel) rfl (by decide) ?_
    refine z_callVI (As := [.int 1]) (st := [.int s.1]) (q := 46) (ct_X5_v g l v0 1) zm_RX5_190 (rc_X5_v v0 1) rfl (by decide) (by decide) (Nat.le_of_ble_eq_true rfl) rfl (by decide +kernel) rfl fun x4 => ?_
    refine z_iload_n (j := 1) (q := 47) (by decide +kernel) rfl 1 rfl ?_
    refine z_icmp_ne (off := 10) (t := 57) (q := 50) (by decide +kernel) (by decide) rfl ?_ ?_
    · refine z_iconst (n := 0) (v := 0) (q := 58) (by decide +kernel) rfl (by decide) ?_
      refine zsub [0, 1, 2, 4] rfl ?_
      exact sj_X5_laws_58 g l rec v0 v1 v2 s.2 s.1 0 hrec
    · refine z_iconst (n := 1) (v := 1) (q := 51) (by decide +kernel) rfl (by decide) ?_
      refine z_iload (j := 4) (q := 53) (by decide +kernel) rfl 4 rfl ?_
      refine z_ishl (q := 54) (by decide +kernel) rfl ?_
      refine z_goto (off := 4) (t := 58) (by decide +kernel) (by decide) ?_
      refine zsub [0, 1, 2, 4] rfl ?_
      exact sj_X5_laws_58 g l rec v0 v1 v2 s.2 s.1 (1 <<< (s.2 &&& 31)) hrec
def dn_X5_laws (v0 : Nat) (v1 : Int32) : zAH → Option (Int32 × zAH) := fun h => (zgO 5 v0 h).bind fun _ => zbd (dn_X5_isRunner v0 v1 h) fun x1 h2 => if x1 = 0 then some ((-1), h2) else (zgI 5 18 v0 h2).bind fun x3 => zbd (dn_X5_noChoices v0 h2) fun x4 h5 => lp_X5_laws_24 v0 v1 x3 (0, 0) h5
theorem ct_X5_laws (g : zG) (l : Launch) (v0 : Nat) (v1 : Int32) : zCt g l yX5_laws cX5_laws 5 (some .int) 7 154 zrI [.ref v0, .int v1] (dn_X5_laws v0 v1) := by
  refine zCt_of (lv := [(0, .ref v0), (1, .int v1)]) (by decide +kernel) (Nat.le_of_ble_eq_true rfl) rfl ?_
  show zSm g l cX5_laws 5 RX5 "laws" (some .int) 7 154 zrI 0 [(0, .ref v0), (1, .int v1)] [] (dn_X5_laws v0 v1)
  unfold dn_X5_laws
  refine z_rec ?_
  refine z_aload_n (j := 0) (q := 1) (by decide +kernel) rfl 0 rfl ?_
  refine z_iload_n (j := 1) (q := 2) (by decide +kernel) rfl 1 rfl ?_
  refine z_callVI (As := [.int v1]) (st := []) (q := 5) (ct_X5_isRunner g l v0 v1) zm_RX5_160 (rc_X5_isRunner v0 v1) rfl (by decide) (by decide) (Nat.le_of_ble_eq_true rfl) rfl (by decide +kernel) rfl fun x1 => ?_
  refine z_if_ne (off := 5) (t := 10) (q := 8) (by decide +kernel) (by decide) rfl ?_ ?_
  · refine z_aload_n (j := 0) (q := 11) (by decide +kernel) rfl 0 rfl ?_
    refine z_getI (q := 14) zf_RX5_150 (by decide +kernel) rfl fun x3 => ?_
    refine z_istore_n (j := 2) (q := 15) (by decide +kernel) rfl (by decide) rfl ?_
    refine z_iconst (n := 0) (v := 0) (q := 16) (by decide +kernel) rfl (by decide) ?_
    refine z_istore_n (j := 3) (q := 17) (by decide +kernel) rfl (by decide) rfl ?_
    refine z_aload_n (j := 0) (q := 18) (by decide +kernel) rfl 2 rfl ?_
    refine z_callVU (As := []) (st := []) (q := 21) (ct_X5_noChoices g l v0) zm_RX5_224 (rc_X5_noChoices v0) rfl (by decide) (by decide) (Nat.le_of_ble_eq_true rfl) rfl (by decide +kernel) rfl fun x4 => ?_
    refine z_iconst (n := 0) (v := 0) (q := 22) (by decide +kernel) rfl (by decide) ?_
    refine z_istore (j := 4) (q := 24) (by decide +kernel) rfl (by decide) rfl ?_
    refine zsub [3, 4, 2, 1, 0] rfl ?_
    exact sl_X5_laws_24 g l v0 v1 x3 (0, 0)
  · refine z_iconst (n := (-1)) (v := (-1)) (q := 9) (by decide +kernel) rfl (by decide) ?_
    exact z_iret (by decide +kernel)
theorem rc_X5_laws (v0 : Nat) (v1 : Int32) : ∀ h x, dn_X5_laws v0 v1 h = some x → ∃ fs, zgO 5 v0 h = some fs := fun h x hd => by
  obtain ⟨fs, e, -⟩ := Option.bind_eq_some_iff.mp hd
  exact ⟨fs, e⟩
def jn_X5_powerOf_19 (v2 : Int32) : zAH → Option (Int32 × zAH) := fun h => some (v2, h)
theorem sj_X5_powerOf_19 (g : zG) (l : Launch) (v2 : Int32) : zSm g l cX5_powerOf 4 RX5 "powerOf" (some .int) 0 0 zrI 19 [(2, .int v2)] [] (jn_X5_powerOf_19 v2) := by
  unfold jn_X5_powerOf_19
  refine z_iload_n (j := 2) (q := 20) (by decide +kernel) rfl 0 rfl ?_
  exact z_iret (by decide +kernel)
def lb_X5_powerOf_4 (v0 : Int32) (v1 : Int32) (rec : (Int32 × Int32) → zAH → Option (Int32 × zAH)) (s : Int32 × Int32) : zAH → Option (Int32 × zAH) := fun h => if s.2 < v1 then rec (s.1 * v0, s.2 + 1) h else jn_X5_powerOf_19 s.1 h
def lp_X5_powerOf_4 (v0 : Int32) (v1 : Int32) (s : Int32 × Int32) : zAH → Option (Int32 × zAH) := zlp (lb_X5_powerOf_4 v0 v1) 2000 s
theorem sl_X5_powerOf_4 (g : zG) (l : Launch) (v0 : Int32) (v1 : Int32) (s : Int32 × Int32) : zSm g l cX5_powerOf 4 RX5 "powerOf" (some .int) 0 0 zrI 4 [(0, .int v0), (1, .int v1), (2, .int s.1), (3, .int s.2)] [] (lp_X5_powerOf_4 v0 v1 s) := by
  unfold lp_X5_powerOf_4
  refine z_loop (lvf := fun s => [(0, .int v0), (1, .int v1), (2, .int s.1), (3, .int s.2)]) (fun rec hrec s => ?_) 2000 s
  unfold lb_X5_powerOf_4
  refine z_iload_n (j := 3) (q := 5) (by decide +kernel) rfl 3 rfl ?_
  refine z_iload_n (j := 1) (q := 6) (by decide +kernel) rfl 1 rfl ?_
  refine z_icmp_ge (off := 13) (t := 19) (q := 9) (by decide +kernel) (by decide) rfl ?_ ?_
  · refine zsub [2] rfl ?_
    exact sj_X5_powerOf_19 g l s.1
  · refine z_iload_n (j := 2) (q := 10) (by decide +kernel) rfl 2 rfl ?_
    refine z_iload_n (j := 0) (q := 11) (by decide +kernel) rfl 0 rfl ?_
    refine z_imul (q := 12) (by decide +kernel) rfl ?_
    refine z_istore_n (j := 2) (q := 13) (by decide +kernel) rfl (by decide) rfl ?_
    refine z_iinc (j := 3) (n := 1) (v := 1) (q := 16) (by decide +kernel) rfl 3 rfl (by decide) (by decide) rfl ?_
    refine z_goto (off := (-12)) (t := 4) (by decide +kernel) (by decide) ?_
    refine zsub [2, 3, 1, 0] rfl ?_
    exact hrec (s.1 * v0, s.2 + 1)
def dn_X5_powerOf (v0 : Int32) (v1 : Int32) : zAH → Option (Int32 × zAH) := fun h => lp_X5_powerOf_4 v0 v1 (1, 0) h
theorem ct_X5_powerOf (g : zG) (l : Launch) (v0 : Int32) (v1 : Int32) : zCt g l yX5_powerOf cX5_powerOf 4 (some .int) 0 0 zrI [.int v0, .int v1] (dn_X5_powerOf v0 v1) := by
  refine zCt_of (lv := [(0, .int v0), (1, .int v1)]) (by decide +kernel) (Nat.le_of_ble_eq_true rfl) rfl ?_
  show zSm g l cX5_powerOf 4 RX5 "powerOf" (some .int) 0 0 zrI 0 [(0, .int v0), (1, .int v1)] [] (dn_X5_powerOf v0 v1)
  unfold dn_X5_powerOf
  refine z_iconst (n := 1) (v := 1) (q := 1) (by decide +kernel) rfl (by decide) ?_
  refine z_istore_n (j := 2) (q := 2) (by decide +kernel) rfl (by decide) rfl ?_
  refine z_iconst (n := 0) (v := 0) (q := 3) (by decide +kernel) rfl (by decide) ?_
  refine z_istore_n (j := 3) (q := 4) (by decide +kernel) rfl (by decide) rfl ?_
  refine zsub [2, 3, 1, 0] rfl ?_
  exact sl_X5_powerOf_4 g l v0 v1 (1, 0)
def dn_X5_choicesBegin (v0 : Nat) : zAH → Option (Unit × zAH) := fun h => (zgO 5 v0 h).bind fun _ => zbd (dn_X5_noChoices v0 h) fun x1 h2 => (zgA 5 28 v0 h2).bind fun x3 => (zaI 0 x3 0 h2).bind fun x4 => (zpF 5 30 v0 (.int x4) h2).bind fun h5 => some ((), h5)
theorem ct_X5_choicesBegin (g : zG) (l : Launch) (v0 : Nat) : zCt g l yX5_choicesBegin cX5_choicesBegin 1 none 1 21 zrV [.ref v0] (dn_X5_choicesBegin v0) := by
  refine zCt_of (lv := [(0, .ref v0)]) (by decide +kernel) (Nat.le_of_ble_eq_true rfl) rfl ?_
  show zSm g l cX5_choicesBegin 1 RX5 "choicesBegin" none 1 21 zrV 0 [(0, .ref v0)] [] (dn_X5_choicesBegin v0)
  unfold dn_X5_choicesBegin
  refine z_rec ?_
  refine z_aload_n (j := 0) (q := 1) (by decide +kernel) rfl 0 rfl ?_
  refine z_callVU (As := []) (st := []) (q := 4) (ct_X5_noChoices g l v0) zm_RX5_224 (rc_X5_noChoices v0) rfl (by decide) (by decide) (Nat.le_of_ble_eq_true rfl) rfl (by decide +kernel) rfl fun x1 => ?_
  refine z_aload_n (j := 0) (q := 5) (by decide +kernel) rfl 0 rfl ?_
  refine z_aload_n (j := 0) (q := 6) (by decide +kernel) rfl 0 rfl ?_
  refine z_getA (q := 9) zf_RX5_66 (by decide +kernel) rfl fun x3 => ?_
  refine z_iconst (n := 0) (v := 0) (q := 10) (by decide +kernel) rfl (by decide) ?_
  refine z_iald (q := 11) (Or.inl ⟨rfl, rfl⟩) (by decide +kernel) rfl fun x4 => ?_
  refine z_putV (q := 14) zp_RX5_199 (fun z => by cases z) rfl rfl (by decide +kernel) rfl ?_
  exact z_vret (by decide +kernel)
theorem rc_X5_choicesBegin (v0 : Nat) : ∀ h x, dn_X5_choicesBegin v0 h = some x → ∃ fs, zgO 5 v0 h = some fs := fun h x hd => by
  obtain ⟨fs, e, -⟩ := Option.bind_eq_some_iff.mp hd
  exact ⟨fs, e⟩
def jn_X5_layChoices_47 : zAH → Option (Unit × zAH) := fun h => some ((), h)
theorem sj_X5_layChoices_47 (g : zG) (l : Launch) : zSm g l cX5_layChoices 6 RX5 "layChoices" none 0 0 zrV 47 [] [] (jn_X5_layChoices_47) := by
  unfold jn_X5_layChoices_47
  exact z_vret (by decide +kernel)
def lb_X5_layChoices_15 (v0 : Nat) (v1 : Int32) (rec : (Int32 × Int32) → zAH → Option (Unit × zAH)) (s : Int32 × Int32) : zAH → Option (Unit × zAH) := fun h => if s.1 < 0 then jn_X5_layChoices_47 h else (zgA 5 32 v0 h).bind fun x1 => if 4 = 0 then none else (zaS 0 x1 ((4 * v1) + s.1) (s.2 % 4) h).bind fun h2 => if 4 = 0 then none else rec (s.1 + (-1), s.2 / 4) h2
def lp_X5_layChoices_15 (v0 : Nat) (v1 : Int32) (s : Int32 × Int32) : zAH → Option (Unit × zAH) := zlp (lb_X5_layChoices_15 v0 v1) 2000 s
theorem sl_X5_layChoices_15 (g : zG) (l : Launch) (v0 : Nat) (v1 : Int32) (s : Int32 × Int32) : zSm g l cX5_layChoices 6 RX5 "layChoices" none 0 0 zrV 15 [(0, .ref v0), (1, .int v1), (4, .int s.1), (5, .int s.2)] [] (lp_X5_layChoices_15 v0 v1 s) := by
  unfold lp_X5_layChoices_15
  refine z_loop (lvf := fun s => [(0, .ref v0), (1, .int v1), (4, .int s.1), (5, .int s.2)]) (fun rec hrec s => ?_) 2000 s
  unfold lb_X5_layChoices_15
  refine z_iload (j := 4) (q := 17) (by decide +kernel) rfl 2 rfl ?_
  refine z_if_lt (off := 30) (t := 47) (q := 20) (by decide +kernel) (by decide) rfl ?_ ?_
  · refine zsub [] rfl ?_
    exact sj_X5_layChoices_47 g l 
  · refine z_aload_n (j := 0) (q := 21) (by decide +kernel) rfl 0 rfl ?_
    refine z_getA (q := 24) zf_RX5_72 (by decide +kernel) rfl fun x1 => ?_
    refine z_iconst (n := 4) (v := 4) (q := 25) (by decide +kernel) rfl (by decide) ?_
    refine z_iload_n (j := 1) (q := 26) (by decide +kernel) rfl 1 rfl ?_
    refine z_imul (q := 27) (by decide +kernel) rfl ?_
    refine z_iload (j := 4) (q := 29) (by decide +kernel) rfl 2 rfl ?_
    refine z_iadd (q := 30) (by decide +kernel) rfl ?_
    refine z_iload (j := 5) (q := 32) (by decide +kernel) rfl 3 rfl ?_
    refine z_iconst (n := 4) (v := 4) (q := 33) (by decide +kernel) rfl (by decide) ?_
    refine z_irem (q := 34) (by decide +kernel) rfl ?_
    refine z_iast (q := 35) (Or.inl ⟨rfl, rfl, rfl⟩) (by decide +kernel) rfl ?_
    refine z_iinc (j := 4) (n := (-1)) (v := (-1)) (q := 38) (by decide +kernel) rfl 2 rfl (by decide) (by decide) rfl ?_
    refine z_iload (j := 5) (q := 40) (by decide +kernel) rfl 3 rfl ?_
    refine z_iconst (n := 4) (v := 4) (q := 41) (by decide +kernel) rfl (by decide) ?_
    refine z_idiv (q := 42) (by decide +kernel) rfl ?_
    refine z_istore (j := 5) (q := 44) (by decide +kernel) rfl (by decide) rfl ?_
    refine z_goto (off := (-29)) (t := 15) (by decide +kernel) (by decide) ?_
    refine zsub [2, 3, 1, 0] rfl ?_
    exact hrec (s.1 + (-1), s.2 / 4)
def dn_X5_layChoices (v0 : Nat) (v1 : Int32) (v2 : Int32) (v3 : Int32) : zAH → Option (Unit × zAH) := fun h => (zgO 5 v0 h).bind fun _ => (zgA 5 31 v0 h).bind fun x1 => (zaS 0 x1 v1 v2 h).bind fun h2 => lp_X5_layChoices_15 v0 v1 (v2 - 1, v3) h2
theorem ct_X5_layChoices (g : zG) (l : Launch) (v0 : Nat) (v1 : Int32) (v2 : Int32) (v3 : Int32) : zCt g l yX5_layChoices cX5_layChoices 6 none 0 0 zrV [.ref v0, .int v1, .int v2, .int v3] (dn_X5_layChoices v0 v1 v2 v3) := by
  refine zCt_of (lv := [(0, .ref v0), (1, .int v1), (2, .int v2), (3, .int v3)]) (by decide +kernel) (Nat.le_of_ble_eq_true rfl) rfl ?_
  show zSm g l cX5_layChoices 6 RX5 "layChoices" none 0 0 zrV 0 [(0, .ref v0), (1, .int v1), (2, .int v2), (3, .int v3)] [] (dn_X5_layChoices v0 v1 v2 v3)
  unfold dn_X5_layChoices
  refine z_rec ?_
  refine z_aload_n (j := 0) (q := 1) (by decide +kernel) rfl 0 rfl ?_
  refine z_getA (q := 4) zf_RX5_69 (by decide +kernel) rfl fun x1 => ?_
  refine z_iload_n (j := 1) (q := 5) (by decide +kernel) rfl 1 rfl ?_
  refine z_iload_n (j := 2) (q := 6) (by decide +kernel) rfl 2 rfl ?_
  refine z_iast (q := 7) (Or.inl ⟨rfl, rfl, rfl⟩) (by decide +kernel) rfl ?_
  refine z_iload_n (j := 2) (q := 8) (by decide +kernel) rfl 2 rfl ?_
  refine z_iconst (n := 1) (v := 1) (q := 9) (by decide +kernel) rfl (by decide) ?_
  refine z_isub (q := 10) (by decide +kernel) rfl ?_
  refine z_istore (j := 4) (q := 12) (by decide +kernel) rfl (by decide) rfl ?_
  refine z_iload_n (j := 3) (q := 13) (by decide +kernel) rfl 4 rfl ?_
  refine z_istore (j := 5) (q := 15) (by decide +kernel) rfl (by decide) rfl ?_
  refine zsub [2, 3, 1, 0] rfl ?_
  exact sl_X5_layChoices_15 g l v0 v1 (v2 - 1, v3)
theorem rc_X5_layChoices (v0 : Nat) (v1 : Int32) (v2 : Int32) (v3 : Int32) : ∀ h x, dn_X5_layChoices v0 v1 v2 v3 h = some x → ∃ fs, zgO 5 v0 h = some fs := fun h x hd => by
  obtain ⟨fs, e, -⟩ := Option.bind_eq_some_iff.mp hd
  exact ⟨fs, e⟩
def dn_X5_isMany (v0 : Int32) : zAH → Option (Int32 × zAH) := fun h => zbd (dn_X5_in v0 1 4 h) fun x1 h2 => if x1 = 0 ∨ x1 = 1 then some (x1, h2) else none
theorem ct_X5_isMany (g : zG) (l : Launch) (v0 : Int32) : zCt g l yX5_isMany cX5_isMany 1 (some .boolean) 1 22 zrI [.int v0] (dn_X5_isMany v0) := by
  refine zCt_of (lv := [(0, .int v0)]) (by decide +kernel) (Nat.le_of_ble_eq_true rfl) rfl ?_
  show zSm g l cX5_isMany 1 RX5 "isMany" (some .boolean) 1 22 zrI 0 [(0, .int v0)] [] (dn_X5_isMany v0)
  unfold dn_X5_isMany
  refine z_iload_n (j := 0) (q := 1) (by decide +kernel) rfl 0 rfl ?_
  refine z_iconst (n := 1) (v := 1) (q := 2) (by decide +kernel) rfl (by decide) ?_
  refine z_iconst (n := 4) (v := 4) (q := 3) (by decide +kernel) rfl (by decide) ?_
  refine z_callSI (As := [.int v0, .int 1, .int 4]) (st := []) (q := 6) (ct_X5_in g l v0 1 4) zm_RX5_86 rfl (by decide) (by decide) (Nat.le_of_ble_eq_true rfl) rfl (by decide +kernel) rfl fun x1 => ?_
  exact z_zret (by decide +kernel)
def jn_X5_best_15 : zAH → Option (Int32 × zAH) := fun h => some ((-1), h)
theorem sj_X5_best_15 (g : zG) (l : Launch) : zSm g l cX5_best 7 RX5 "best" (some .int) 7 154 zrI 15 [] [] (jn_X5_best_15) := by
  unfold jn_X5_best_15
  refine z_iconst (n := (-1)) (v := (-1)) (q := 16) (by decide +kernel) rfl (by decide) ?_
  exact z_iret (by decide +kernel)
def jn_X5_best_95 (kc30 : (Int32 × Int32 × Int32) → zAH → Option (Int32 × zAH)) (v0 : Nat) (v1 : Int32) (v2 : Int32) (v3 : Int32) (v4 : Int32) (v5 : Int32) : zAH → Option (Int32 × zAH) := fun h => kc30 (v3, v4, v5 + 1) h
theorem sj_X5_best_95 (g : zG) (l : Launch) (kc30 : (Int32 × Int32 × Int32) → zAH → Option (Int32 × zAH)) (v0 : Nat) (v1 : Int32) (v2 : Int32) (v3 : Int32) (v4 : Int32) (v5 : Int32) (hkc30 : ∀ s, zSm g l cX5_best 7 RX5 "best" (some .int) 7 154 zrI 30 [(0, .ref v0), (1, .int v1), (2, .int v2), (3, .int s.1), (4, .int s.2.1), (5, .int s.2.2)] [] (kc30 s)) : zSm g l cX5_best 7 RX5 "best" (some .int) 7 154 zrI 95 [(0, .ref v0), (1, .int v1), (2, .int v2), (3, .int v3), (4, .int v4), (5, .int v5)] [] (jn_X5_best_95 kc30 v0 v1 v2 v3 v4 v5) := by
  unfold jn_X5_best_95
  refine z_iinc (j := 5) (n := 1) (v := 1) (q := 98) (by decide +kernel) rfl 5 rfl (by decide) (by decide) rfl ?_
  refine z_goto (off := (-68)) (t := 30) (by decide +kernel) (by decide) ?_
  refine zsub [1, 2, 3, 4, 5, 0] rfl ?_
  exact hkc30 (v3, v4, v5 + 1)
def jn_X5_best_88 (kc30 : (Int32 × Int32 × Int32) → zAH → Option (Int32 × zAH)) (v0 : Nat) (v1 : Int32) (v2 : Int32) (v5 : Int32) (v6 : Int32) : zAH → Option (Int32 × zAH) := fun h => jn_X5_best_95 kc30 v0 v1 v2 v5 v6 v5 h
theorem sj_X5_best_88 (g : zG) (l : Launch) (kc30 : (Int32 × Int32 × Int32) → zAH → Option (Int32 × zAH)) (v0 : Nat) (v1 : Int32) (v2 : Int32) (v5 : Int32) (v6 : Int32) (hkc30 : ∀ s, zSm g l cX5_best 7 RX5 "best" (some .int) 7 154 zrI 30 [(0, .ref v0), (1, .int v1), (2, .int v2), (3, .int s.1), (4, .int s.2.1), (5, .int s.2.2)] [] (kc30 s)) : zSm g l cX5_best 7 RX5 "best" (some .int) 7 154 zrI 88 [(0, .ref v0), (1, .int v1), (2, .int v2), (5, .int v5), (6, .int v6)] [] (jn_X5_best_88 kc30 v0 v1 v2 v5 v6) := by
  unfold jn_X5_best_88
  refine z_iload (j := 5) (q := 90) (by decide +kernel) rfl 3 rfl ?_
  refine z_istore_n (j := 3) (q := 91) (by decide +kernel) rfl (by decide) rfl ?_
  refine z_iload (j := 6) (q := 93) (by decide +kernel) rfl 5 rfl ?_
  refine z_istore (j := 4) (q := 95) (by decide +kernel) rfl (by decide) rfl ?_
  refine zsub [2, 3, 4, 1, 0, 5] rfl ?_
  exact sj_X5_best_95 g l kc30 v0 v1 v2 v5 v6 v5 hkc30
def jn_X5_best_67 (kc30 : (Int32 × Int32 × Int32) → zAH → Option (Int32 × zAH)) (v0 : Nat) (v1 : Int32) (v2 : Int32) (v3 : Int32) (v4 : Int32) (v5 : Int32) (w0 : Int32) : zAH → Option (Int32 × zAH) := fun h => zbd (dn_X5_rankOf v0 v1 h) fun x1 h2 => if v3 = ((-9)) then jn_X5_best_88 kc30 v0 v1 v2 v5 (w0 + x1) h2 else if (w0 + x1) < v4 then jn_X5_best_88 kc30 v0 v1 v2 v5 (w0 + x1) h2 else jn_X5_best_95 kc30 v0 v1 v2 v3 v4 v5 h2
theorem sj_X5_best_67 (g : zG) (l : Launch) (kc30 : (Int32 × Int32 × Int32) → zAH → Option (Int32 × zAH)) (v0 : Nat) (v1 : Int32) (v2 : Int32) (v3 : Int32) (v4 : Int32) (v5 : Int32) (w0 : Int32) (hkc30 : ∀ s, zSm g l cX5_best 7 RX5 "best" (some .int) 7 154 zrI 30 [(0, .ref v0), (1, .int v1), (2, .int v2), (3, .int s.1), (4, .int s.2.1), (5, .int s.2.2)] [] (kc30 s)) : zSm g l cX5_best 7 RX5 "best" (some .int) 7 154 zrI 67 [(0, .ref v0), (1, .int v1), (2, .int v2), (3, .int v3), (4, .int v4), (5, .int v5)] [.int w0] (jn_X5_best_67 kc30 v0 v1 v2 v3 v4 v5 w0) := by
  unfold jn_X5_best_67
  refine z_aload_n (j := 0) (q := 68) (by decide +kernel) rfl 0 rfl ?_
  refine z_iload_n (j := 1) (q := 69) (by decide +kernel) rfl 1 rfl ?_
  refine z_callVI (As := [.int v1]) (st := [.int w0]) (q := 72) (ct_X5_rankOf g l v0 v1) zm_RX5_231 (rc_X5_rankOf v0 v1) rfl (by decide) (by decide) (Nat.le_of_ble_eq_true rfl) rfl (by decide +kernel) rfl fun x1 => ?_
  refine z_iadd (q := 73) (by decide +kernel) rfl ?_
  refine z_istore (j := 6) (q := 75) (by decide +kernel) rfl (by decide) rfl ?_
  refine z_iload_n (j := 3) (q := 76) (by decide +kernel) rfl 4 rfl ?_
  refine z_bipush (n := (-9)) (v := (-9)) (q := 78) (by decide +kernel) rfl (by decide) ?_
  refine z_icmp_eq (off := 10) (t := 88) (q := 81) (by decide +kernel) (by decide) rfl ?_ ?_
  · refine zsub [1, 2, 3, 6, 0] rfl ?_
    exact sj_X5_best_88 g l kc30 v0 v1 v2 v5 (w0 + x1) hkc30
  · refine z_iload (j := 6) (q := 83) (by decide +kernel) rfl 0 rfl ?_
    refine z_iload (j := 4) (q := 85) (by decide +kernel) rfl 5 rfl ?_
    refine z_icmp_ge (off := 10) (t := 95) (q := 88) (by decide +kernel) (by decide) rfl ?_ ?_
    · refine zsub [1, 2, 3, 4, 5, 6] rfl ?_
      exact sj_X5_best_95 g l kc30 v0 v1 v2 v3 v4 v5 hkc30
    · refine zsub [1, 2, 3, 6, 0] rfl ?_
      exact sj_X5_best_88 g l kc30 v0 v1 v2 v5 (w0 + x1) hkc30
def jn_X5_best_101 (v0 : Nat) (v3 : Int32) (v4 : Int32) : zAH → Option (Int32 × zAH) := fun h => zbd (dn_X5_noChoices v0 h) fun x1 h2 => if 100 = 0 then none else if 100 = 0 then none else zbd (dn_X5_tells v0 ((10 * (v4 % 100)) + (v4 / 100)) v3 h2) fun x3 h4 => some (x3, h4)
theorem sj_X5_best_101 (g : zG) (l : Launch) (v0 : Nat) (v3 : Int32) (v4 : Int32) : zSm g l cX5_best 7 RX5 "best" (some .int) 7 154 zrI 101 [(0, .ref v0), (3, .int v3), (4, .int v4)] [] (jn_X5_best_101 v0 v3 v4) := by
  unfold jn_X5_best_101
  refine z_aload_n (j := 0) (q := 102) (by decide +kernel) rfl 0 rfl ?_
  refine z_callVU (As := []) (st := []) (q := 105) (ct_X5_noChoices g l v0) zm_RX5_224 (rc_X5_noChoices v0) rfl (by decide) (by decide) (Nat.le_of_ble_eq_true rfl) rfl (by decide +kernel) rfl fun x1 => ?_
  refine z_aload_n (j := 0) (q := 106) (by decide +kernel) rfl 0 rfl ?_
  refine z_bipush (n := 10) (v := 10) (q := 108) (by decide +kernel) rfl (by decide) ?_
  refine z_iload (j := 4) (q := 110) (by decide +kernel) rfl 2 rfl ?_
  refine z_bipush (n := 100) (v := 100) (q := 112) (by decide +kernel) rfl (by decide) ?_
  refine z_irem (q := 113) (by decide +kernel) rfl ?_
  refine z_imul (q := 114) (by decide +kernel) rfl ?_
  refine z_iload (j := 4) (q := 116) (by decide +kernel) rfl 2 rfl ?_
  refine z_bipush (n := 100) (v := 100) (q := 118) (by decide +kernel) rfl (by decide) ?_
  refine z_idiv (q := 119) (by decide +kernel) rfl ?_
  refine z_iadd (q := 120) (by decide +kernel) rfl ?_
  refine z_iload_n (j := 3) (q := 121) (by decide +kernel) rfl 1 rfl ?_
  refine z_callVI (As := [.int ((10 * (v4 % 100)) + (v4 / 100)), .int v3]) (st := []) (q := 124) (ct_X5_tells g l v0 ((10 * (v4 % 100)) + (v4 / 100)) v3) zm_RX5_108 (rc_X5_tells v0 ((10 * (v4 % 100)) + (v4 / 100)) v3) rfl (by decide) (by decide) (Nat.le_of_ble_eq_true rfl) rfl (by decide +kernel) rfl fun x3 => ?_
  exact z_iret (by decide +kernel)
def lb_X5_best_30 (v0 : Nat) (v1 : Int32) (v2 : Int32) (rec : (Int32 × Int32 × Int32) → zAH → Option (Int32 × zAH)) (s : Int32 × Int32 × Int32) : zAH → Option (Int32 × zAH) := fun h => zbd (dn_X5_powerOf 4 v2 h) fun x1 h2 => if s.2.2 < x1 then zbd (dn_X5_layChoices v0 v1 v2 s.2.2 h2) fun x3 h4 => zbd (dn_X5_layEnd v0 h4) fun x5 h6 => zbd (dn_X5_v v0 1 h6) fun x7 h8 => if x7 = v1 then jn_X5_best_67 rec v0 v1 v2 s.1 s.2.1 s.2.2 100 h8 else jn_X5_best_67 rec v0 v1 v2 s.1 s.2.1 s.2.2 0 h8 else jn_X5_best_101 v0 s.1 s.2.1 h2
def lp_X5_best_30 (v0 : Nat) (v1 : Int32) (v2 : Int32) (s : Int32 × Int32 × Int32) : zAH → Option (Int32 × zAH) := zlp (lb_X5_best_30 v0 v1 v2) 2000 s
theorem sl_X5_best_30 (g : zG) (l : Launch) (v0 : Nat) (v1 : Int32) (v2 : Int32) (s : Int32 × Int32 × Int32) : zSm g l cX5_best 7 RX5 "best" (some .int) 7 154 zrI 30 [(0, .ref v0), (1, .int v1), (2, .int v2), (3, .int s.1), (4, .int s.2.1), (5, .int s.2.2)] [] (lp_X5_best_30 v0 v1 v2 s) := by
  unfold lp_X5_best_30
  refine z_loop (lvf := fun s => [(0, .ref v0), (1, .int v1), (2, .int v2), (3, .int s.1), (4, .int s.2.1), (5, .int s.2.2)]) (fun rec hrec s => ?_) 2000 s
  unfold lb_X5_best_30
  refine z_iload (j := 5) (q := 32) (by decide +kernel) rfl 5 rfl ?_
  refine z_iconst (n := 4) (v := 4) (q := 33) (by decide +kernel) rfl (by decide) ?_
  refine z_iload_n (j := 2) (q := 34) (by decide +kernel) rfl 2 rfl ?_
  refine z_callSI (As := [.int 4, .int v2]) (st := [.int s.2.2]) (q := 37) (ct_X5_powerOf g l 4 v2) zm_RX5_252 rfl (by decide) (by decide) (Nat.le_of_ble_eq_true rfl) rfl (by decide +kernel) rfl fun x1 => ?_
  refine z_icmp_ge (off := 64) (t := 101) (q := 40) (by decide +kernel) (by decide) rfl ?_ ?_
  · refine zsub [0, 3, 4] rfl ?_
    exact sj_X5_best_101 g l v0 s.1 s.2.1
  · refine z_aload_n (j := 0) (q := 41) (by decide +kernel) rfl 0 rfl ?_
    refine z_iload_n (j := 1) (q := 42) (by decide +kernel) rfl 1 rfl ?_
    refine z_iload_n (j := 2) (q := 43) (by decide +kernel) rfl 2 rfl ?_
    refine z_iload (j := 5) (q := 45) (by decide +kernel) rfl 5 rfl ?_
    refine z_callVU (As := [.int v1, .int v2, .int s.2.2]) (st := []) (q := 48) (ct_X5_layChoices g l v0 v1 v2 s.2.2) zm_RX5_255 (rc_X5_layChoices v0 v1 v2 s.2.2) rfl (by decide) (by decide) (Nat.le_of_ble_eq_true rfl) rfl (by decide +kernel) rfl fun x3 => ?_
    refine z_aload_n (j := 0) (q := 49) (by decide +kernel) rfl 0 rfl ?_
    refine z_callVU (As := []) (st := []) (q := 52) (ct_X5_layEnd g l v0) zm_RX5_243 (rc_X5_layEnd v0) rfl (by decide) (by decide) (Nat.le_of_ble_eq_true rfl) rfl (by decide +kernel) rfl fun x5 => ?_
    refine z_aload_n (j := 0) (q := 53) (by decide +kernel) rfl 0 rfl ?_
    refine z_iconst (n := 1) (v := 1) (q := 54) (by decide +kernel) rfl (by decide) ?_
    refine z_callVI (As := [.int 1]) (st := []) (q := 57) (ct_X5_v g l v0 1) zm_RX5_190 (rc_X5_v v0 1) rfl (by decide) (by decide) (Nat.le_of_ble_eq_true rfl) rfl (by decide +kernel) rfl fun x7 => ?_
    refine z_iload_n (j := 1) (q := 58) (by decide +kernel) rfl 1 rfl ?_
    refine z_icmp_ne (off := 8) (t := 66) (q := 61) (by decide +kernel) (by decide) rfl ?_ ?_
    · refine z_iconst (n := 0) (v := 0) (q := 67) (by decide +kernel) rfl (by decide) ?_
      refine zsub [0, 1, 2, 3, 4, 5] rfl ?_
      exact sj_X5_best_67 g l rec v0 v1 v2 s.1 s.2.1 s.2.2 0 hrec
    · refine z_bipush (n := 100) (v := 100) (q := 63) (by decide +kernel) rfl (by decide) ?_
      refine z_goto (off := 4) (t := 67) (by decide +kernel) (by decide) ?_
      refine zsub [0, 1, 2, 3, 4, 5] rfl ?_
      exact sj_X5_best_67 g l rec v0 v1 v2 s.1 s.2.1 s.2.2 100 hrec
def dn_X5_best (v0 : Nat) (v1 : Int32) (v2 : Int32) : zAH → Option (Int32 × zAH) := fun h => (zgO 5 v0 h).bind fun _ => zbd (dn_X5_isRunner v0 v1 h) fun x1 h2 => if x1 = 0 then jn_X5_best_15 h2 else zbd (dn_X5_isMany v2 h2) fun x3 h4 => if x3 = 0 then jn_X5_best_15 h4 else zbd (dn_X5_choicesBegin v0 h4) fun x5 h6 => lp_X5_best_30 v0 v1 v2 ((-9), 0, 0) h6
theorem ct_X5_best (g : zG) (l : Launch) (v0 : Nat) (v1 : Int32) (v2 : Int32) : zCt g l yX5_best cX5_best 7 (some .int) 7 154 zrI [.ref v0, .int v1, .int v2] (dn_X5_best v0 v1 v2) := by
  refine zCt_of (lv := [(0, .ref v0), (1, .int v1), (2, .int v2)]) (by decide +kernel) (Nat.le_of_ble_eq_true rfl) rfl ?_
  show zSm g l cX5_best 7 RX5 "best" (some .int) 7 154 zrI 0 [(0, .ref v0), (1, .int v1), (2, .int v2)] [] (dn_X5_best v0 v1 v2)
  unfold dn_X5_best
  refine z_rec ?_
  refine z_aload_n (j := 0) (q := 1) (by decide +kernel) rfl 0 rfl ?_
  refine z_iload_n (j := 1) (q := 2) (by decide +kernel) rfl 1 rfl ?_
  refine z_callVI (As := [.int v1]) (st := []) (q := 5) (ct_X5_isRunner g l v0 v1) zm_RX5_160 (rc_X5_isRunner v0 v1) rfl (by decide) (by decide) (Nat.le_of_ble_eq_true rfl) rfl (by decide +kernel) rfl fun x1 => ?_
  refine z_if_eq (off := 10) (t := 15) (q := 8) (by decide +kernel) (by decide) rfl ?_ ?_
  · refine zsub [] rfl ?_
    exact sj_X5_best_15 g l 
  · refine z_iload_n (j := 2) (q := 9) (by decide +kernel) rfl 2 rfl ?_
    refine z_callSI (As := [.int v2]) (st := []) (q := 12) (ct_X5_isMany g l v2) zm_RX5_246 rfl (by decide) (by decide) (Nat.le_of_ble_eq_true rfl) rfl (by decide +kernel) rfl fun x3 => ?_
    refine z_if_ne (off := 5) (t := 17) (q := 15) (by decide +kernel) (by decide) rfl ?_ ?_
    · refine z_aload_n (j := 0) (q := 18) (by decide +kernel) rfl 0 rfl ?_
      refine z_callVU (As := []) (st := []) (q := 21) (ct_X5_choicesBegin g l v0) zm_RX5_249 (rc_X5_choicesBegin v0) rfl (by decide) (by decide) (Nat.le_of_ble_eq_true rfl) rfl (by decide +kernel) rfl fun x5 => ?_
      refine z_bipush (n := (-9)) (v := (-9)) (q := 23) (by decide +kernel) rfl (by decide) ?_
      refine z_istore_n (j := 3) (q := 24) (by decide +kernel) rfl (by decide) rfl ?_
      refine z_iconst (n := 0) (v := 0) (q := 25) (by decide +kernel) rfl (by decide) ?_
      refine z_istore (j := 4) (q := 27) (by decide +kernel) rfl (by decide) rfl ?_
      refine z_iconst (n := 0) (v := 0) (q := 28) (by decide +kernel) rfl (by decide) ?_
      refine z_istore (j := 5) (q := 30) (by decide +kernel) rfl (by decide) rfl ?_
      refine zsub [3, 4, 5, 2, 1, 0] rfl ?_
      exact sl_X5_best_30 g l v0 v1 v2 ((-9), 0, 0)
    · refine zsub [] rfl ?_
      exact sj_X5_best_15 g l 
theorem rc_X5_best (v0 : Nat) (v1 : Int32) (v2 : Int32) : ∀ h x, dn_X5_best v0 v1 v2 h = some x → ∃ fs, zgO 5 v0 h = some fs := fun h x hd => by
  obtain ⟨fs, e, -⟩ := Option.bind_eq_some_iff.mp hd
  exact ⟨fs, e⟩
def jn_X5_free_15 : zAH → Option (Int32 × zAH) := fun h => some ((-1), h)
theorem sj_X5_free_15 (g : zG) (l : Launch) : zSm g l cX5_free 5 RX5 "free" (some .int) 7 154 zrI 15 [] [] (jn_X5_free_15) := by
  unfold jn_X5_free_15
  refine z_iconst (n := (-1)) (v := (-1)) (q := 16) (by decide +kernel) rfl (by decide) ?_
  exact z_iret (by decide +kernel)
def jn_X5_free_63 (kc26 : (Int32 × Int32) → zAH → Option (Int32 × zAH)) (v0 : Nat) (v1 : Int32) (v2 : Int32) (v4 : Int32) (w0 : Int32) (w1 : Int32) : zAH → Option (Int32 × zAH) := fun h => kc26 (w0 + w1, v4 + 1) h
theorem sj_X5_free_63 (g : zG) (l : Launch) (kc26 : (Int32 × Int32) → zAH → Option (Int32 × zAH)) (v0 : Nat) (v1 : Int32) (v2 : Int32) (v4 : Int32) (w0 : Int32) (w1 : Int32) (hkc26 : ∀ s, zSm g l cX5_free 5 RX5 "free" (some .int) 7 154 zrI 26 [(0, .ref v0), (1, .int v1), (2, .int v2), (3, .int s.1), (4, .int s.2)] [] (kc26 s)) : zSm g l cX5_free 5 RX5 "free" (some .int) 7 154 zrI 63 [(0, .ref v0), (1, .int v1), (2, .int v2), (4, .int v4)] [.int w1, .int w0] (jn_X5_free_63 kc26 v0 v1 v2 v4 w0 w1) := by
  unfold jn_X5_free_63
  refine z_iadd (q := 64) (by decide +kernel) rfl ?_
  refine z_istore_n (j := 3) (q := 65) (by decide +kernel) rfl (by decide) rfl ?_
  refine z_iinc (j := 4) (n := 1) (v := 1) (q := 68) (by decide +kernel) rfl 4 rfl (by decide) (by decide) rfl ?_
  refine z_goto (off := (-42)) (t := 26) (by decide +kernel) (by decide) ?_
  refine zsub [2, 3, 4, 1, 0] rfl ?_
  exact hkc26 (w0 + w1, v4 + 1)
def jn_X5_free_71 (v0 : Nat) (v2 : Int32) (v3 : Int32) : zAH → Option (Int32 × zAH) := fun h => zbd (dn_X5_noChoices v0 h) fun x1 h2 => zbd (dn_X5_powerOf 4 v2 h2) fun x3 h4 => zbd (dn_X5_fraction v0 (Int32.toInt64 v3) (Int32.toInt64 x3) v3 h4) fun x5 h6 => some (x5, h6)
theorem sj_X5_free_71 (g : zG) (l : Launch) (v0 : Nat) (v2 : Int32) (v3 : Int32) : zSm g l cX5_free 5 RX5 "free" (some .int) 7 154 zrI 71 [(0, .ref v0), (2, .int v2), (3, .int v3)] [] (jn_X5_free_71 v0 v2 v3) := by
  unfold jn_X5_free_71
  refine z_aload_n (j := 0) (q := 72) (by decide +kernel) rfl 0 rfl ?_
  refine z_callVU (As := []) (st := []) (q := 75) (ct_X5_noChoices g l v0) zm_RX5_224 (rc_X5_noChoices v0) rfl (by decide) (by decide) (Nat.le_of_ble_eq_true rfl) rfl (by decide +kernel) rfl fun x1 => ?_
  refine z_aload_n (j := 0) (q := 76) (by decide +kernel) rfl 0 rfl ?_
  refine z_iload_n (j := 3) (q := 77) (by decide +kernel) rfl 2 rfl ?_
  refine z_i2l (q := 78) (by decide +kernel) rfl ?_
  refine z_iconst (n := 4) (v := 4) (q := 79) (by decide +kernel) rfl (by decide) ?_
  refine z_iload_n (j := 2) (q := 80) (by decide +kernel) rfl 1 rfl ?_
  refine z_callSI (As := [.int 4, .int v2]) (st := [.long (Int32.toInt64 v3), .ref v0]) (q := 83) (ct_X5_powerOf g l 4 v2) zm_RX5_252 rfl (by decide) (by decide) (Nat.le_of_ble_eq_true rfl) rfl (by decide +kernel) rfl fun x3 => ?_
  refine z_i2l (q := 84) (by decide +kernel) rfl ?_
  refine z_iload_n (j := 3) (q := 85) (by decide +kernel) rfl 2 rfl ?_
  refine z_callVI (As := [.long (Int32.toInt64 v3), .long (Int32.toInt64 x3), .int v3]) (st := []) (q := 88) (ct_X5_fraction g l v0 (Int32.toInt64 v3) (Int32.toInt64 x3) v3) zm_RX5_258 (rc_X5_fraction v0 (Int32.toInt64 v3) (Int32.toInt64 x3) v3) rfl (by decide) (by decide) (Nat.le_of_ble_eq_true rfl) rfl (by decide +kernel) rfl fun x5 => ?_
  exact z_iret (by decide +kernel)
def lb_X5_free_26 (v0 : Nat) (v1 : Int32) (v2 : Int32) (rec : (Int32 × Int32) → zAH → Option (Int32 × zAH)) (s : Int32 × Int32) : zAH → Option (Int32 × zAH) := fun h => zbd (dn_X5_powerOf 4 v2 h) fun x1 h2 => if s.2 < x1 then zbd (dn_X5_layChoices v0 v1 v2 s.2 h2) fun x3 h4 => zbd (dn_X5_layEnd v0 h4) fun x5 h6 => zbd (dn_X5_v v0 1 h6) fun x7 h8 => if x7 = v1 then jn_X5_free_63 rec v0 v1 v2 s.2 s.1 0 h8 else jn_X5_free_63 rec v0 v1 v2 s.2 s.1 1 h8 else jn_X5_free_71 v0 v2 s.1 h2
def lp_X5_free_26 (v0 : Nat) (v1 : Int32) (v2 : Int32) (s : Int32 × Int32) : zAH → Option (Int32 × zAH) := zlp (lb_X5_free_26 v0 v1 v2) 2000 s
theorem sl_X5_free_26 (g : zG) (l : Launch) (v0 : Nat) (v1 : Int32) (v2 : Int32) (s : Int32 × Int32) : zSm g l cX5_free 5 RX5 "free" (some .int) 7 154 zrI 26 [(0, .ref v0), (1, .int v1), (2, .int v2), (3, .int s.1), (4, .int s.2)] [] (lp_X5_free_26 v0 v1 v2 s) := by
  unfold lp_X5_free_26
  refine z_loop (lvf := fun s => [(0, .ref v0), (1, .int v1), (2, .int v2), (3, .int s.1), (4, .int s.2)]) (fun rec hrec s => ?_) 2000 s
  unfold lb_X5_free_26
  refine z_iload (j := 4) (q := 28) (by decide +kernel) rfl 4 rfl ?_
  refine z_iconst (n := 4) (v := 4) (q := 29) (by decide +kernel) rfl (by decide) ?_
  refine z_iload_n (j := 2) (q := 30) (by decide +kernel) rfl 2 rfl ?_
  refine z_callSI (As := [.int 4, .int v2]) (st := [.int s.2]) (q := 33) (ct_X5_powerOf g l 4 v2) zm_RX5_252 rfl (by decide) (by decide) (Nat.le_of_ble_eq_true rfl) rfl (by decide +kernel) rfl fun x1 => ?_
  refine z_icmp_ge (off := 38) (t := 71) (q := 36) (by decide +kernel) (by decide) rfl ?_ ?_
  · refine zsub [0, 2, 3] rfl ?_
    exact sj_X5_free_71 g l v0 v2 s.1
  · refine z_aload_n (j := 0) (q := 37) (by decide +kernel) rfl 0 rfl ?_
    refine z_iload_n (j := 1) (q := 38) (by decide +kernel) rfl 1 rfl ?_
    refine z_iload_n (j := 2) (q := 39) (by decide +kernel) rfl 2 rfl ?_
    refine z_iload (j := 4) (q := 41) (by decide +kernel) rfl 4 rfl ?_
    refine z_callVU (As := [.int v1, .int v2, .int s.2]) (st := []) (q := 44) (ct_X5_layChoices g l v0 v1 v2 s.2) zm_RX5_255 (rc_X5_layChoices v0 v1 v2 s.2) rfl (by decide) (by decide) (Nat.le_of_ble_eq_true rfl) rfl (by decide +kernel) rfl fun x3 => ?_
    refine z_aload_n (j := 0) (q := 45) (by decide +kernel) rfl 0 rfl ?_
    refine z_callVU (As := []) (st := []) (q := 48) (ct_X5_layEnd g l v0) zm_RX5_243 (rc_X5_layEnd v0) rfl (by decide) (by decide) (Nat.le_of_ble_eq_true rfl) rfl (by decide +kernel) rfl fun x5 => ?_
    refine z_iload_n (j := 3) (q := 49) (by decide +kernel) rfl 3 rfl ?_
    refine z_aload_n (j := 0) (q := 50) (by decide +kernel) rfl 0 rfl ?_
    refine z_iconst (n := 1) (v := 1) (q := 51) (by decide +kernel) rfl (by decide) ?_
    refine z_callVI (As := [.int 1]) (st := [.int s.1]) (q := 54) (ct_X5_v g l v0 1) zm_RX5_190 (rc_X5_v v0 1) rfl (by decide) (by decide) (Nat.le_of_ble_eq_true rfl) rfl (by decide +kernel) rfl fun x7 => ?_
    refine z_iload_n (j := 1) (q := 55) (by decide +kernel) rfl 1 rfl ?_
    refine z_icmp_ne (off := 7) (t := 62) (q := 58) (by decide +kernel) (by decide) rfl ?_ ?_
    · refine z_iconst (n := 1) (v := 1) (q := 63) (by decide +kernel) rfl (by decide) ?_
      refine zsub [0, 1, 2, 4] rfl ?_
      exact sj_X5_free_63 g l rec v0 v1 v2 s.2 s.1 1 hrec
    · refine z_iconst (n := 0) (v := 0) (q := 59) (by decide +kernel) rfl (by decide) ?_
      refine z_goto (off := 4) (t := 63) (by decide +kernel) (by decide) ?_
      refine zsub [0, 1, 2, 4] rfl ?_
      exact sj_X5_free_63 g l rec v0 v1 v2 s.2 s.1 0 hrec
def dn_X5_free (v0 : Nat) (v1 : Int32) (v2 : Int32) : zAH → Option (Int32 × zAH) := fun h => (zgO 5 v0 h).bind fun _ => zbd (dn_X5_isRunner v0 v1 h) fun x1 h2 => if x1 = 0 then jn_X5_free_15 h2 else zbd (dn_X5_isMany v2 h2) fun x3 h4 => if x3 = 0 then jn_X5_free_15 h4 else zbd (dn_X5_choicesBegin v0 h4) fun x5 h6 => lp_X5_free_26 v0 v1 v2 (0, 0) h6
theorem ct_X5_free (g : zG) (l : Launch) (v0 : Nat) (v1 : Int32) (v2 : Int32) : zCt g l yX5_free cX5_free 5 (some .int) 7 154 zrI [.ref v0, .int v1, .int v2] (dn_X5_free v0 v1 v2) := by
  refine zCt_of (lv := [(0, .ref v0), (1, .int v1), (2, .int v2)]) (by decide +kernel) (Nat.le_of_ble_eq_true rfl) rfl ?_
  show zSm g l cX5_free 5 RX5 "free" (some .int) 7 154 zrI 0 [(0, .ref v0), (1, .int v1), (2, .int v2)] [] (dn_X5_free v0 v1 v2)
  unfold dn_X5_free
  refine z_rec ?_
  refine z_aload_n (j := 0) (q := 1) (by decide +kernel) rfl 0 rfl ?_
  refine z_iload_n (j := 1) (q := 2) (by decide +kernel) rfl 1 rfl ?_
  refine z_callVI (As := [.int v1]) (st := []) (q := 5) (ct_X5_isRunner g l v0 v1) zm_RX5_160 (rc_X5_isRunner v0 v1) rfl (by decide) (by decide) (Nat.le_of_ble_eq_true rfl) rfl (by decide +kernel) rfl fun x1 => ?_
  refine z_if_eq (off := 10) (t := 15) (q := 8) (by decide +kernel) (by decide) rfl ?_ ?_
  · refine zsub [] rfl ?_
    exact sj_X5_free_15 g l 
  · refine z_iload_n (j := 2) (q := 9) (by decide +kernel) rfl 2 rfl ?_
    refine z_callSI (As := [.int v2]) (st := []) (q := 12) (ct_X5_isMany g l v2) zm_RX5_246 rfl (by decide) (by decide) (Nat.le_of_ble_eq_true rfl) rfl (by decide +kernel) rfl fun x3 => ?_
    refine z_if_ne (off := 5) (t := 17) (q := 15) (by decide +kernel) (by decide) rfl ?_ ?_
    · refine z_aload_n (j := 0) (q := 18) (by decide +kernel) rfl 0 rfl ?_
      refine z_callVU (As := []) (st := []) (q := 21) (ct_X5_choicesBegin g l v0) zm_RX5_249 (rc_X5_choicesBegin v0) rfl (by decide) (by decide) (Nat.le_of_ble_eq_true rfl) rfl (by decide +kernel) rfl fun x5 => ?_
      refine z_iconst (n := 0) (v := 0) (q := 22) (by decide +kernel) rfl (by decide) ?_
      refine z_istore_n (j := 3) (q := 23) (by decide +kernel) rfl (by decide) rfl ?_
      refine z_iconst (n := 0) (v := 0) (q := 24) (by decide +kernel) rfl (by decide) ?_
      refine z_istore (j := 4) (q := 26) (by decide +kernel) rfl (by decide) rfl ?_
      refine zsub [2, 3, 4, 1, 0] rfl ?_
      exact sl_X5_free_26 g l v0 v1 v2 (0, 0)
    · refine zsub [] rfl ?_
      exact sj_X5_free_15 g l 
theorem rc_X5_free (v0 : Nat) (v1 : Int32) (v2 : Int32) : ∀ h x, dn_X5_free v0 v1 v2 h = some x → ∃ fs, zgO 5 v0 h = some fs := fun h x hd => by
  obtain ⟨fs, e, -⟩ := Option.bind_eq_some_iff.mp hd
  exact ⟨fs, e⟩
def jn_X5_layBoth_76 : zAH → Option (Unit × zAH) := fun h => some ((), h)
theorem sj_X5_layBoth_76 (g : zG) (l : Launch) : zSm g l cX5_layBoth 7 RX5 "layBoth" none 0 0 zrV 76 [] [] (jn_X5_layBoth_76) := by
  unfold jn_X5_layBoth_76
  exact z_vret (by decide +kernel)
def lb_X5_layBoth_23 (v0 : Nat) (v1 : Int32) (v2 : Int32) (rec : (Int32 × Int32) → zAH → Option (Unit × zAH)) (s : Int32 × Int32) : zAH → Option (Unit × zAH) := fun h => if s.2 < 0 then jn_X5_layBoth_76 h else (zgA 5 32 v0 h).bind fun x1 => if 4 = 0 then none else (zaS 0 x1 ((4 * v2) + s.2) (s.1 % 4) h).bind fun h2 => if 4 = 0 then none else (zgA 5 32 v0 h2).bind fun x3 => if 4 = 0 then none else (zaS 0 x3 ((4 * v1) + s.2) ((s.1 / 4) % 4) h2).bind fun h4 => if 4 = 0 then none else rec ((s.1 / 4) / 4, s.2 + (-1)) h4
def lp_X5_layBoth_23 (v0 : Nat) (v1 : Int32) (v2 : Int32) (s : Int32 × Int32) : zAH → Option (Unit × zAH) := zlp (lb_X5_layBoth_23 v0 v1 v2) 2000 s
theorem sl_X5_layBoth_23 (g : zG) (l : Launch) (v0 : Nat) (v1 : Int32) (v2 : Int32) (s : Int32 × Int32) : zSm g l cX5_layBoth 7 RX5 "layBoth" none 0 0 zrV 23 [(0, .ref v0), (1, .int v1), (2, .int v2), (5, .int s.1), (6, .int s.2)] [] (lp_X5_layBoth_23 v0 v1 v2 s) := by
  unfold lp_X5_layBoth_23
  refine z_loop (lvf := fun s => [(0, .ref v0), (1, .int v1), (2, .int v2), (5, .int s.1), (6, .int s.2)]) (fun rec hrec s => ?_) 2000 s
  unfold lb_X5_layBoth_23
  refine z_iload (j := 6) (q := 25) (by decide +kernel) rfl 4 rfl ?_
  refine z_if_lt (off := 51) (t := 76) (q := 28) (by decide +kernel) (by decide) rfl ?_ ?_
  · refine zsub [] rfl ?_
    exact sj_X5_layBoth_76 g l 
  · refine z_aload_n (j := 0) (q := 29) (by decide +kernel) rfl 0 rfl ?_
    refine z_getA (q := 32) zf_RX5_72 (by decide +kernel) rfl fun x1 => ?_
    refine z_iconst (n := 4) (v := 4) (q := 33) (by decide +kernel) rfl (by decide) ?_
    refine z_iload_n (j := 2) (q := 34) (by decide +kernel) rfl 2 rfl ?_
    refine z_imul (q := 35) (by decide +kernel) rfl ?_
    refine z_iload (j := 6) (q := 37) (by decide +kernel) rfl 4 rfl ?_
    refine z_iadd (q := 38) (by decide +kernel) rfl ?_
    refine z_iload (j := 5) (q := 40) (by decide +kernel) rfl 3 rfl ?_
    refine z_iconst (n := 4) (v := 4) (q := 41) (by decide +kernel) rfl (by decide) ?_
    refine z_irem (q := 42) (by decide +kernel) rfl ?_
    refine z_iast (q := 43) (Or.inl ⟨rfl, rfl, rfl⟩) (by decide +kernel) rfl ?_
    refine z_iload (j := 5) (q := 45) (by decide +kernel) rfl 3 rfl ?_
    refine z_iconst (n := 4) (v := 4) (q := 46) (by decide +kernel) rfl (by decide) ?_
    refine z_idiv (q := 47) (by decide +kernel) rfl ?_
    refine z_istore (j := 5) (q := 49) (by decide +kernel) rfl (by decide) rfl ?_
    refine z_aload_n (j := 0) (q := 50) (by decide +kernel) rfl 1 rfl ?_
    refine z_getA (q := 53) zf_RX5_72 (by decide +kernel) rfl fun x3 => ?_
    refine z_iconst (n := 4) (v := 4) (q := 54) (by decide +kernel) rfl (by decide) ?_
    refine z_iload_n (j := 1) (q := 55) (by decide +kernel) rfl 2 rfl ?_
    refine z_imul (q := 56) (by decide +kernel) rfl ?_
    refine z_iload (j := 6) (q := 58) (by decide +kernel) rfl 4 rfl ?_
    refine z_iadd (q := 59) (by decide +kernel) rfl ?_
    refine z_iload (j := 5) (q := 61) (by decide +kernel) rfl 0 rfl ?_
    refine z_iconst (n := 4) (v := 4) (q := 62) (by decide +kernel) rfl (by decide) ?_
    refine z_irem (q := 63) (by decide +kernel) rfl ?_
    refine z_iast (q := 64) (Or.inl ⟨rfl, rfl, rfl⟩) (by decide +kernel) rfl ?_
    refine z_iload (j := 5) (q := 66) (by decide +kernel) rfl 0 rfl ?_
    refine z_iconst (n := 4) (v := 4) (q := 67) (by decide +kernel) rfl (by decide) ?_
    refine z_idiv (q := 68) (by decide +kernel) rfl ?_
    refine z_istore (j := 5) (q := 70) (by decide +kernel) rfl (by decide) rfl ?_
    refine z_iinc (j := 6) (n := (-1)) (v := (-1)) (q := 73) (by decide +kernel) rfl 4 rfl (by decide) (by decide) rfl ?_
    refine z_goto (off := (-50)) (t := 23) (by decide +kernel) (by decide) ?_
    refine zsub [2, 3, 4, 1, 0] rfl ?_
    exact hrec ((s.1 / 4) / 4, s.2 + (-1))
def dn_X5_layBoth (v0 : Nat) (v1 : Int32) (v2 : Int32) (v3 : Int32) (v4 : Int32) : zAH → Option (Unit × zAH) := fun h => (zgO 5 v0 h).bind fun _ => (zgA 5 31 v0 h).bind fun x1 => (zaS 0 x1 v1 v3 h).bind fun h2 => (zgA 5 31 v0 h2).bind fun x3 => (zaS 0 x3 v2 v3 h2).bind fun h4 => lp_X5_layBoth_23 v0 v1 v2 (v4, v3 - 1) h4
theorem ct_X5_layBoth (g : zG) (l : Launch) (v0 : Nat) (v1 : Int32) (v2 : Int32) (v3 : Int32) (v4 : Int32) : zCt g l yX5_layBoth cX5_layBoth 7 none 0 0 zrV [.ref v0, .int v1, .int v2, .int v3, .int v4] (dn_X5_layBoth v0 v1 v2 v3 v4) := by
  refine zCt_of (lv := [(0, .ref v0), (1, .int v1), (2, .int v2), (3, .int v3), (4, .int v4)]) (by decide +kernel) (Nat.le_of_ble_eq_true rfl) rfl ?_
  show zSm g l cX5_layBoth 7 RX5 "layBoth" none 0 0 zrV 0 [(0, .ref v0), (1, .int v1), (2, .int v2), (3, .int v3), (4, .int v4)] [] (dn_X5_layBoth v0 v1 v2 v3 v4)
  unfold dn_X5_layBoth
  refine z_rec ?_
  refine z_aload_n (j := 0) (q := 1) (by decide +kernel) rfl 0 rfl ?_
  refine z_getA (q := 4) zf_RX5_69 (by decide +kernel) rfl fun x1 => ?_
  refine z_iload_n (j := 1) (q := 5) (by decide +kernel) rfl 1 rfl ?_
  refine z_iload_n (j := 3) (q := 6) (by decide +kernel) rfl 3 rfl ?_
  refine z_iast (q := 7) (Or.inl ⟨rfl, rfl, rfl⟩) (by decide +kernel) rfl ?_
  refine z_aload_n (j := 0) (q := 8) (by decide +kernel) rfl 0 rfl ?_
  refine z_getA (q := 11) zf_RX5_69 (by decide +kernel) rfl fun x3 => ?_
  refine z_iload_n (j := 2) (q := 12) (by decide +kernel) rfl 2 rfl ?_
  refine z_iload_n (j := 3) (q := 13) (by decide +kernel) rfl 3 rfl ?_
  refine z_iast (q := 14) (Or.inl ⟨rfl, rfl, rfl⟩) (by decide +kernel) rfl ?_
  refine z_iload (j := 4) (q := 16) (by decide +kernel) rfl 4 rfl ?_
  refine z_istore (j := 5) (q := 18) (by decide +kernel) rfl (by decide) rfl ?_
  refine z_iload_n (j := 3) (q := 19) (by decide +kernel) rfl 4 rfl ?_
  refine z_iconst (n := 1) (v := 1) (q := 20) (by decide +kernel) rfl (by decide) ?_
  refine z_isub (q := 21) (by decide +kernel) rfl ?_
  refine z_istore (j := 6) (q := 23) (by decide +kernel) rfl (by decide) rfl ?_
  refine zsub [2, 3, 4, 1, 0] rfl ?_
  exact sl_X5_layBoth_23 g l v0 v1 v2 (v4, v3 - 1)
theorem rc_X5_layBoth (v0 : Nat) (v1 : Int32) (v2 : Int32) (v3 : Int32) (v4 : Int32) : ∀ h x, dn_X5_layBoth v0 v1 v2 v3 v4 h = some x → ∃ fs, zgO 5 v0 h = some fs := fun h x hd => by
  obtain ⟨fs, e, -⟩ := Option.bind_eq_some_iff.mp hd
  exact ⟨fs, e⟩
def jn_X5_duel_30 : zAH → Option (Int32 × zAH) := fun h => some ((-1), h)
theorem sj_X5_duel_30 (g : zG) (l : Launch) : zSm g l cX5_duel 13 RX5 "duel" (some .int) 7 154 zrI 30 [] [] (jn_X5_duel_30) := by
  unfold jn_X5_duel_30
  refine z_iconst (n := (-1)) (v := (-1)) (q := 31) (by decide +kernel) rfl (by decide) ?_
  exact z_iret (by decide +kernel)
def jn_X5_duel_100 (kc47 : Int32 → zAH → Option (Int32 × zAH)) (v0 : Nat) (v1 : Int32) (v2 : Int32) (v3 : Int32) (v4 : Int32) (v5 : Int32) (w0 : Nat) (w1 : Int32) (w2 : Int32) : zAH → Option (Int32 × zAH) := fun h => (zaS 0 w0 w1 w2 h).bind fun h1 => kc47 (v5 + 1) h1
theorem sj_X5_duel_100 (g : zG) (l : Launch) (kc47 : Int32 → zAH → Option (Int32 × zAH)) (v0 : Nat) (v1 : Int32) (v2 : Int32) (v3 : Int32) (v4 : Int32) (v5 : Int32) (w0 : Nat) (w1 : Int32) (w2 : Int32) (hkc47 : ∀ s, zSm g l cX5_duel 13 RX5 "duel" (some .int) 7 154 zrI 47 [(0, .ref v0), (1, .int v1), (2, .int v2), (3, .int v3), (4, .int v4), (5, .int s)] [] (kc47 s)) : zSm g l cX5_duel 13 RX5 "duel" (some .int) 7 154 zrI 100 [(0, .ref v0), (1, .int v1), (2, .int v2), (3, .int v3), (4, .int v4), (5, .int v5)] [.int w2, .int w1, .ref w0] (jn_X5_duel_100 kc47 v0 v1 v2 v3 v4 v5 w0 w1 w2) := by
  unfold jn_X5_duel_100
  refine z_iast (q := 101) (Or.inl ⟨rfl, rfl, rfl⟩) (by decide +kernel) rfl ?_
  refine z_iinc (j := 5) (n := 1) (v := 1) (q := 104) (by decide +kernel) rfl 5 rfl (by decide) (by decide) rfl ?_
  refine z_goto (off := (-57)) (t := 47) (by decide +kernel) (by decide) ?_
  refine zsub [1, 2, 3, 4, 5, 0] rfl ?_
  exact hkc47 (v5 + 1)
def jn_X5_duel_242 (kc122 : (Int32 × Int32 × Int32) → zAH → Option (Int32 × zAH)) (kc136 : (Int32 × Int32) → zAH → Option (Int32 × zAH)) (kc160 : (Int32 × Int32 × Int32) → zAH → Option (Int32 × zAH)) (v0 : Nat) (v4 : Int32) (v5 : Int32) (v6 : Int32) (v7 : Int32) (v9 : Int32) (v10 : Int32) (w0 : Int32) : zAH → Option (Int32 × zAH) := fun h => kc160 (w0, v9, v10 + 1) h
theorem sj_X5_duel_242 (g : zG) (l : Launch) (kc122 : (Int32 × Int32 × Int32) → zAH → Option (Int32 × zAH)) (kc136 : (Int32 × Int32) → zAH → Option (Int32 × zAH)) (kc160 : (Int32 × Int32 × Int32) → zAH → Option (Int32 × zAH)) (v0 : Nat) (v4 : Int32) (v5 : Int32) (v6 : Int32) (v7 : Int32) (v9 : Int32) (v10 : Int32) (w0 : Int32) (hkc122 : ∀ s, zSm g l cX5_duel 13 RX5 "duel" (some .int) 7 154 zrI 122 [(0, .ref v0), (4, .int s.1), (5, .int s.2.1), (6, .int s.2.2)] [] (kc122 s)) (hkc136 : ∀ s, zSm g l cX5_duel 13 RX5 "duel" (some .int) 7 154 zrI 136 [(0, .ref v0), (4, .int v4), (5, .int s.1), (6, .int v6), (7, .int s.2)] [] (kc136 s)) (hkc160 : ∀ s, zSm g l cX5_duel 13 RX5 "duel" (some .int) 7 154 zrI 160 [(0, .ref v0), (4, .int v4), (5, .int v5), (6, .int v6), (7, .int v7), (8, .int s.1), (9, .int s.2.1), (10, .int s.2.2)] [] (kc160 s)) : zSm g l cX5_duel 13 RX5 "duel" (some .int) 7 154 zrI 242 [(0, .ref v0), (4, .int v4), (5, .int v5), (6, .int v6), (7, .int v7), (9, .int v9), (10, .int v10)] [.int w0] (jn_X5_duel_242 kc122 kc136 kc160 v0 v4 v5 v6 v7 v9 v10 w0) := by
  unfold jn_X5_duel_242
  refine z_istore (j := 8) (q := 244) (by decide +kernel) rfl (by decide) rfl ?_
  refine z_iinc (j := 10) (n := 1) (v := 1) (q := 247) (by decide +kernel) rfl 7 rfl (by decide) (by decide) rfl ?_
  refine z_goto (off := (-87)) (t := 160) (by decide +kernel) (by decide) ?_
  refine zsub [2, 3, 4, 5, 6, 1, 7, 0] rfl ?_
  exact hkc160 (w0, v9, v10 + 1)
def jn_X5_duel_228 (kc122 : (Int32 × Int32 × Int32) → zAH → Option (Int32 × zAH)) (kc136 : (Int32 × Int32) → zAH → Option (Int32 × zAH)) (kc160 : (Int32 × Int32 × Int32) → zAH → Option (Int32 × zAH)) (v0 : Nat) (v4 : Int32) (v5 : Int32) (v6 : Int32) (v7 : Int32) (v8 : Int32) (v10 : Int32) (v11 : Int32) (v12 : Int32) (w0 : Int32) : zAH → Option (Int32 × zAH) := fun h => if v12 = 0 then jn_X5_duel_242 kc122 kc136 kc160 v0 v4 v5 v6 v7 w0 v10 v8 h else jn_X5_duel_242 kc122 kc136 kc160 v0 v4 v5 v6 v7 w0 v10 v11 h
theorem sj_X5_duel_228 (g : zG) (l : Launch) (kc122 : (Int32 × Int32 × Int32) → zAH → Option (Int32 × zAH)) (kc136 : (Int32 × Int32) → zAH → Option (Int32 × zAH)) (kc160 : (Int32 × Int32 × Int32) → zAH → Option (Int32 × zAH)) (v0 : Nat) (v4 : Int32) (v5 : Int32) (v6 : Int32) (v7 : Int32) (v8 : Int32) (v10 : Int32) (v11 : Int32) (v12 : Int32) (w0 : Int32) (hkc122 : ∀ s, zSm g l cX5_duel 13 RX5 "duel" (some .int) 7 154 zrI 122 [(0, .ref v0), (4, .int s.1), (5, .int s.2.1), (6, .int s.2.2)] [] (kc122 s)) (hkc136 : ∀ s, zSm g l cX5_duel 13 RX5 "duel" (some .int) 7 154 zrI 136 [(0, .ref v0), (4, .int v4), (5, .int s.1), (6, .int v6), (7, .int s.2)] [] (kc136 s)) (hkc160 : ∀ s, zSm g l cX5_duel 13 RX5 "duel" (some .int) 7 154 zrI 160 [(0, .ref v0), (4, .int v4), (5, .int v5), (6, .int v6), (7, .int v7), (8, .int s.1), (9, .int s.2.1), (10, .int s.2.2)] [] (kc160 s)) : zSm g l cX5_duel 13 RX5 "duel" (some .int) 7 154 zrI 228 [(0, .ref v0), (4, .int v4), (5, .int v5), (6, .int v6), (7, .int v7), (8, .int v8), (10, .int v10), (11, .int v11), (12, .int v12)] [.int w0] (jn_X5_duel_228 kc122 kc136 kc160 v0 v4 v5 v6 v7 v8 v10 v11 v12 w0) := by
  unfold jn_X5_duel_228
  refine z_istore (j := 9) (q := 230) (by decide +kernel) rfl (by decide) rfl ?_
  refine z_iload (j := 12) (q := 232) (by decide +kernel) rfl 9 rfl ?_
  refine z_if_eq (off := 8) (t := 240) (q := 235) (by decide +kernel) (by decide) rfl ?_ ?_
  · refine z_iload (j := 8) (q := 242) (by decide +kernel) rfl 6 rfl ?_
    refine zsub [1, 2, 3, 4, 5, 0, 7] rfl ?_
    exact sj_X5_duel_242 g l kc122 kc136 kc160 v0 v4 v5 v6 v7 w0 v10 v8 hkc122 hkc136 hkc160
  · refine z_iload (j := 11) (q := 237) (by decide +kernel) rfl 8 rfl ?_
    refine z_goto (off := 5) (t := 242) (by decide +kernel) (by decide) ?_
    refine zsub [1, 2, 3, 4, 5, 0, 7] rfl ?_
    exact sj_X5_duel_242 g l kc122 kc136 kc160 v0 v4 v5 v6 v7 w0 v10 v11 hkc122 hkc136 hkc160
def jn_X5_duel_214 (kc122 : (Int32 × Int32 × Int32) → zAH → Option (Int32 × zAH)) (kc136 : (Int32 × Int32) → zAH → Option (Int32 × zAH)) (kc160 : (Int32 × Int32 × Int32) → zAH → Option (Int32 × zAH)) (v0 : Nat) (v4 : Int32) (v5 : Int32) (v6 : Int32) (v7 : Int32) (v8 : Int32) (v9 : Int32) (v10 : Int32) (v11 : Int32) (w0 : Int32) : zAH → Option (Int32 × zAH) := fun h => if w0 = 0 then jn_X5_duel_228 kc122 kc136 kc160 v0 v4 v5 v6 v7 v8 v10 v11 w0 v9 h else jn_X5_duel_228 kc122 kc136 kc160 v0 v4 v5 v6 v7 v8 v10 v11 w0 v10 h
theorem sj_X5_duel_214 (g : zG) (l : Launch) (kc122 : (Int32 × Int32 × Int32) → zAH → Option (Int32 × zAH)) (kc136 : (Int32 × Int32) → zAH → Option (Int32 × zAH)) (kc160 : (Int32 × Int32 × Int32) → zAH → Option (Int32 × zAH)) (v0 : Nat) (v4 : Int32) (v5 : Int32) (v6 : Int32) (v7 : Int32) (v8 : Int32) (v9 : Int32) (v10 : Int32) (v11 : Int32) (w0 : Int32) (hkc122 : ∀ s, zSm g l cX5_duel 13 RX5 "duel" (some .int) 7 154 zrI 122 [(0, .ref v0), (4, .int s.1), (5, .int s.2.1), (6, .int s.2.2)] [] (kc122 s)) (hkc136 : ∀ s, zSm g l cX5_duel 13 RX5 "duel" (some .int) 7 154 zrI 136 [(0, .ref v0), (4, .int v4), (5, .int s.1), (6, .int v6), (7, .int s.2)] [] (kc136 s)) (hkc160 : ∀ s, zSm g l cX5_duel 13 RX5 "duel" (some .int) 7 154 zrI 160 [(0, .ref v0), (4, .int v4), (5, .int v5), (6, .int v6), (7, .int v7), (8, .int s.1), (9, .int s.2.1), (10, .int s.2.2)] [] (kc160 s)) : zSm g l cX5_duel 13 RX5 "duel" (some .int) 7 154 zrI 214 [(0, .ref v0), (4, .int v4), (5, .int v5), (6, .int v6), (7, .int v7), (8, .int v8), (9, .int v9), (10, .int v10), (11, .int v11)] [.int w0] (jn_X5_duel_214 kc122 kc136 kc160 v0 v4 v5 v6 v7 v8 v9 v10 v11 w0) := by
  unfold jn_X5_duel_214
  refine z_istore (j := 12) (q := 216) (by decide +kernel) rfl (by decide) rfl ?_
  refine z_iload (j := 12) (q := 218) (by decide +kernel) rfl 0 rfl ?_
  refine z_if_eq (off := 8) (t := 226) (q := 221) (by decide +kernel) (by decide) rfl ?_ ?_
  · refine z_iload (j := 9) (q := 228) (by decide +kernel) rfl 7 rfl ?_
    refine zsub [1, 2, 3, 4, 5, 6, 8, 9, 0] rfl ?_
    exact sj_X5_duel_228 g l kc122 kc136 kc160 v0 v4 v5 v6 v7 v8 v10 v11 w0 v9 hkc122 hkc136 hkc160
  · refine z_iload (j := 10) (q := 223) (by decide +kernel) rfl 8 rfl ?_
    refine z_goto (off := 5) (t := 228) (by decide +kernel) (by decide) ?_
    refine zsub [1, 2, 3, 4, 5, 6, 8, 9, 0] rfl ?_
    exact sj_X5_duel_228 g l kc122 kc136 kc160 v0 v4 v5 v6 v7 v8 v10 v11 w0 v10 hkc122 hkc136 hkc160
def jn_X5_duel_271 (kc122 : (Int32 × Int32 × Int32) → zAH → Option (Int32 × zAH)) (kc136 : (Int32 × Int32) → zAH → Option (Int32 × zAH)) (v0 : Nat) (v4 : Int32) (v6 : Int32) (v7 : Int32) (w0 : Int32) : zAH → Option (Int32 × zAH) := fun h => kc136 (w0, v7 + 1) h
theorem sj_X5_duel_271 (g : zG) (l : Launch) (kc122 : (Int32 × Int32 × Int32) → zAH → Option (Int32 × zAH)) (kc136 : (Int32 × Int32) → zAH → Option (Int32 × zAH)) (v0 : Nat) (v4 : Int32) (v6 : Int32) (v7 : Int32) (w0 : Int32) (hkc122 : ∀ s, zSm g l cX5_duel 13 RX5 "duel" (some .int) 7 154 zrI 122 [(0, .ref v0), (4, .int s.1), (5, .int s.2.1), (6, .int s.2.2)] [] (kc122 s)) (hkc136 : ∀ s, zSm g l cX5_duel 13 RX5 "duel" (some .int) 7 154 zrI 136 [(0, .ref v0), (4, .int v4), (5, .int s.1), (6, .int v6), (7, .int s.2)] [] (kc136 s)) : zSm g l cX5_duel 13 RX5 "duel" (some .int) 7 154 zrI 271 [(0, .ref v0), (4, .int v4), (6, .int v6), (7, .int v7)] [.int w0] (jn_X5_duel_271 kc122 kc136 v0 v4 v6 v7 w0) := by
  unfold jn_X5_duel_271
  refine z_istore (j := 5) (q := 273) (by decide +kernel) rfl (by decide) rfl ?_
  refine z_iinc (j := 7) (n := 1) (v := 1) (q := 276) (by decide +kernel) rfl 4 rfl (by decide) (by decide) rfl ?_
  refine z_goto (off := (-140)) (t := 136) (by decide +kernel) (by decide) ?_
  refine zsub [2, 3, 1, 4, 0] rfl ?_
  exact hkc136 (w0, v7 + 1)
def jn_X5_duel_250 (kc122 : (Int32 × Int32 × Int32) → zAH → Option (Int32 × zAH)) (kc136 : (Int32 × Int32) → zAH → Option (Int32 × zAH)) (v0 : Nat) (v4 : Int32) (v5 : Int32) (v6 : Int32) (v7 : Int32) (v8 : Int32) (v9 : Int32) : zAH → Option (Int32 × zAH) := fun h => (zgA 5 33 v0 h).bind fun x1 => (zaS 0 x1 v7 v8 h).bind fun h2 => if v6 = 0 then jn_X5_duel_271 kc122 kc136 v0 v4 v6 v7 v9 h2 else jn_X5_duel_271 kc122 kc136 v0 v4 v6 v7 v5 h2
theorem sj_X5_duel_250 (g : zG) (l : Launch) (kc122 : (Int32 × Int32 × Int32) → zAH → Option (Int32 × zAH)) (kc136 : (Int32 × Int32) → zAH → Option (Int32 × zAH)) (v0 : Nat) (v4 : Int32) (v5 : Int32) (v6 : Int32) (v7 : Int32) (v8 : Int32) (v9 : Int32) (hkc122 : ∀ s, zSm g l cX5_duel 13 RX5 "duel" (some .int) 7 154 zrI 122 [(0, .ref v0), (4, .int s.1), (5, .int s.2.1), (6, .int s.2.2)] [] (kc122 s)) (hkc136 : ∀ s, zSm g l cX5_duel 13 RX5 "duel" (some .int) 7 154 zrI 136 [(0, .ref v0), (4, .int v4), (5, .int s.1), (6, .int v6), (7, .int s.2)] [] (kc136 s)) : zSm g l cX5_duel 13 RX5 "duel" (some .int) 7 154 zrI 250 [(0, .ref v0), (4, .int v4), (5, .int v5), (6, .int v6), (7, .int v7), (8, .int v8), (9, .int v9)] [] (jn_X5_duel_250 kc122 kc136 v0 v4 v5 v6 v7 v8 v9) := by
  unfold jn_X5_duel_250
  refine z_aload_n (j := 0) (q := 251) (by decide +kernel) rfl 0 rfl ?_
  refine z_getA (q := 254) zf_RX5_75 (by decide +kernel) rfl fun x1 => ?_
  refine z_iload (j := 7) (q := 256) (by decide +kernel) rfl 4 rfl ?_
  refine z_iload (j := 8) (q := 258) (by decide +kernel) rfl 5 rfl ?_
  refine z_iast (q := 259) (Or.inl ⟨rfl, rfl, rfl⟩) (by decide +kernel) rfl ?_
  refine z_iload (j := 6) (q := 261) (by decide +kernel) rfl 3 rfl ?_
  refine z_if_ne (off := 8) (t := 269) (q := 264) (by decide +kernel) (by decide) rfl ?_ ?_
  · refine z_iload (j := 5) (q := 271) (by decide +kernel) rfl 2 rfl ?_
    refine zsub [0, 1, 3, 4] rfl ?_
    exact sj_X5_duel_271 g l kc122 kc136 v0 v4 v6 v7 v5 hkc122 hkc136
  · refine z_iload (j := 9) (q := 266) (by decide +kernel) rfl 6 rfl ?_
    refine z_goto (off := 5) (t := 271) (by decide +kernel) (by decide) ?_
    refine zsub [0, 1, 3, 4] rfl ?_
    exact sj_X5_duel_271 g l kc122 kc136 v0 v4 v6 v7 v9 hkc122 hkc136
def lb_X5_duel_160 (kc122 : (Int32 × Int32 × Int32) → zAH → Option (Int32 × zAH)) (kc136 : (Int32 × Int32) → zAH → Option (Int32 × zAH)) (v0 : Nat) (v4 : Int32) (v5 : Int32) (v6 : Int32) (v7 : Int32) (rec : (Int32 × Int32 × Int32) → zAH → Option (Int32 × zAH)) (s : Int32 × Int32 × Int32) : zAH → Option (Int32 × zAH) := fun h => if s.2.2 < 4 then (zgA 5 33 v0 h).bind fun x1 => (zaI 0 x1 ((4 * v7) + s.2.2) h).bind fun x2 => if 2 = 0 then none else if (v6 % 2) = 0 then if s.1 < x2 then jn_X5_duel_214 kc122 kc136 rec v0 v4 v5 v6 v7 s.1 s.2.1 s.2.2 x2 1 h else jn_X5_duel_214 kc122 kc136 rec v0 v4 v5 v6 v7 s.1 s.2.1 s.2.2 x2 0 h else if x2 < s.1 then jn_X5_duel_214 kc122 kc136 rec v0 v4 v5 v6 v7 s.1 s.2.1 s.2.2 x2 1 h else jn_X5_duel_214 kc122 kc136 rec v0 v4 v5 v6 v7 s.1 s.2.1 s.2.2 x2 0 h else jn_X5_duel_250 kc122 kc136 v0 v4 v5 v6 v7 s.1 s.2.1 h
def lp_X5_duel_160 (kc122 : (Int32 × Int32 × Int32) → zAH → Option (Int32 × zAH)) (kc136 : (Int32 × Int32) → zAH → Option (Int32 × zAH)) (v0 : Nat) (v4 : Int32) (v5 : Int32) (v6 : Int32) (v7 : Int32) (s : Int32 × Int32 × Int32) : zAH → Option (Int32 × zAH) := zlp (lb_X5_duel_160 kc122 kc136 v0 v4 v5 v6 v7) 2000 s
theorem sl_X5_duel_160 (g : zG) (l : Launch) (kc122 : (Int32 × Int32 × Int32) → zAH → Option (Int32 × zAH)) (kc136 : (Int32 × Int32) → zAH → Option (Int32 × zAH)) (v0 : Nat) (v4 : Int32) (v5 : Int32) (v6 : Int32) (v7 : Int32) (hkc122 : ∀ s, zSm g l cX5_duel 13 RX5 "duel" (some .int) 7 154 zrI 122 [(0, .ref v0), (4, .int s.1), (5, .int s.2.1), (6, .int s.2.2)] [] (kc122 s)) (hkc136 : ∀ s, zSm g l cX5_duel 13 RX5 "duel" (some .int) 7 154 zrI 136 [(0, .ref v0), (4, .int v4), (5, .int s.1), (6, .int v6), (7, .int s.2)] [] (kc136 s)) (s : Int32 × Int32 × Int32) : zSm g l cX5_duel 13 RX5 "duel" (some .int) 7 154 zrI 160 [(0, .ref v0), (4, .int v4), (5, .int v5), (6, .int v6), (7, .int v7), (8, .int s.1), (9, .int s.2.1), (10, .int s.2.2)] [] (lp_X5_duel_160 kc122 kc136 v0 v4 v5 v6 v7 s) := by
  unfold lp_X5_duel_160
  refine z_loop (lvf := fun s => [(0, .ref v0), (4, .int v4), (5, .int v5), (6, .int v6), (7, .int v7), (8, .int s.1), (9, .int s.2.1), (10, .int s.2.2)]) (fun rec hrec s => ?_) 2000 s
  unfold lb_X5_duel_160
  refine z_iload (j := 10) (q := 162) (by decide +kernel) rfl 7 rfl ?_
  refine z_iconst (n := 4) (v := 4) (q := 163) (by decide +kernel) rfl (by decide) ?_
  refine z_icmp_ge (off := 87) (t := 250) (q := 166) (by decide +kernel) (by decide) rfl ?_ ?_
  · refine zsub [0, 1, 2, 3, 4, 5, 6] rfl ?_
    exact sj_X5_duel_250 g l kc122 kc136 v0 v4 v5 v6 v7 s.1 s.2.1 hkc122 hkc136
  · refine z_aload_n (j := 0) (q := 167) (by decide +kernel) rfl 0 rfl ?_
    refine z_getA (q := 170) zf_RX5_75 (by decide +kernel) rfl fun x1 => ?_
    refine z_iconst (n := 4) (v := 4) (q := 171) (by decide +kernel) rfl (by decide) ?_
    refine z_iload (j := 7) (q := 173) (by decide +kernel) rfl 4 rfl ?_
    refine z_imul (q := 174) (by decide +kernel) rfl ?_
    refine z_iload (j := 10) (q := 176) (by decide +kernel) rfl 7 rfl ?_
    refine z_iadd (q := 177) (by decide +kernel) rfl ?_
    refine z_iald (q := 178) (Or.inl ⟨rfl, rfl⟩) (by decide +kernel) rfl fun x2 => ?_
    refine z_istore (j := 11) (q := 180) (by decide +kernel) rfl (by decide) rfl ?_
    refine z_iload (j := 6) (q := 182) (by decide +kernel) rfl 4 rfl ?_
    refine z_iconst (n := 2) (v := 2) (q := 183) (by decide +kernel) rfl (by decide) ?_
    refine z_irem (q := 184) (by decide +kernel) rfl ?_
    refine z_if_ne (off := 18) (t := 202) (q := 187) (by decide +kernel) (by decide) rfl ?_ ?_
    · refine z_iload (j := 11) (q := 204) (by decide +kernel) rfl 0 rfl ?_
      refine z_iload (j := 8) (q := 206) (by decide +kernel) rfl 6 rfl ?_
      refine z_icmp_ge (off := 7) (t := 213) (q := 209) (by decide +kernel) (by decide) rfl ?_ ?_
      · refine z_iconst (n := 0) (v := 0) (q := 214) (by decide +kernel) rfl (by decide) ?_
        refine zsub [1, 2, 3, 4, 5, 6, 7, 8, 0] rfl ?_
        exact sj_X5_duel_214 g l kc122 kc136 rec v0 v4 v5 v6 v7 s.1 s.2.1 s.2.2 x2 0 hkc122 hkc136 hrec
      · refine z_iconst (n := 1) (v := 1) (q := 210) (by decide +kernel) rfl (by decide) ?_
        refine z_goto (off := 4) (t := 214) (by decide +kernel) (by decide) ?_
        refine zsub [1, 2, 3, 4, 5, 6, 7, 8, 0] rfl ?_
        exact sj_X5_duel_214 g l kc122 kc136 rec v0 v4 v5 v6 v7 s.1 s.2.1 s.2.2 x2 1 hkc122 hkc136 hrec
    · refine z_iload (j := 11) (q := 189) (by decide +kernel) rfl 0 rfl ?_
      refine z_iload (j := 8) (q := 191) (by decide +kernel) rfl 6 rfl ?_
      refine z_icmp_le (off := 7) (t := 198) (q := 194) (by decide +kernel) (by decide) rfl ?_ ?_
      · refine z_iconst (n := 0) (v := 0) (q := 199) (by decide +kernel) rfl (by decide) ?_
        refine z_goto (off := 15) (t := 214) (by decide +kernel) (by decide) ?_
        refine zsub [1, 2, 3, 4, 5, 6, 7, 8, 0] rfl ?_
        exact sj_X5_duel_214 g l kc122 kc136 rec v0 v4 v5 v6 v7 s.1 s.2.1 s.2.2 x2 0 hkc122 hkc136 hrec
      · refine z_iconst (n := 1) (v := 1) (q := 195) (by decide +kernel) rfl (by decide) ?_
        refine z_goto (off := 19) (t := 214) (by decide +kernel) (by decide) ?_
        refine zsub [1, 2, 3, 4, 5, 6, 7, 8, 0] rfl ?_
        exact sj_X5_duel_214 g l kc122 kc136 rec v0 v4 v5 v6 v7 s.1 s.2.1 s.2.2 x2 1 hkc122 hkc136 hrec
def jn_X5_duel_279 (kc122 : (Int32 × Int32 × Int32) → zAH → Option (Int32 × zAH)) (v0 : Nat) (v4 : Int32) (v5 : Int32) (v6 : Int32) : zAH → Option (Int32 × zAH) := fun h => kc122 (v4, v5, v6 + (-1)) h
theorem sj_X5_duel_279 (g : zG) (l : Launch) (kc122 : (Int32 × Int32 × Int32) → zAH → Option (Int32 × zAH)) (v0 : Nat) (v4 : Int32) (v5 : Int32) (v6 : Int32) (hkc122 : ∀ s, zSm g l cX5_duel 13 RX5 "duel" (some .int) 7 154 zrI 122 [(0, .ref v0), (4, .int s.1), (5, .int s.2.1), (6, .int s.2.2)] [] (kc122 s)) : zSm g l cX5_duel 13 RX5 "duel" (some .int) 7 154 zrI 279 [(0, .ref v0), (4, .int v4), (5, .int v5), (6, .int v6)] [] (jn_X5_duel_279 kc122 v0 v4 v5 v6) := by
  unfold jn_X5_duel_279
  refine z_iinc (j := 6) (n := (-1)) (v := (-1)) (q := 282) (by decide +kernel) rfl 3 rfl (by decide) (by decide) rfl ?_
  refine z_goto (off := (-160)) (t := 122) (by decide +kernel) (by decide) ?_
  refine zsub [1, 2, 3, 0] rfl ?_
  exact hkc122 (v4, v5, v6 + (-1))
def lb_X5_duel_136 (kc122 : (Int32 × Int32 × Int32) → zAH → Option (Int32 × zAH)) (v0 : Nat) (v4 : Int32) (v6 : Int32) (rec : (Int32 × Int32) → zAH → Option (Int32 × zAH)) (s : Int32 × Int32) : zAH → Option (Int32 × zAH) := fun h => if s.2 < v4 then (zgA 5 33 v0 h).bind fun x1 => (zaI 0 x1 (4 * s.2) h).bind fun x2 => lp_X5_duel_160 kc122 rec v0 v4 s.1 v6 s.2 (x2, 0, 1) h else jn_X5_duel_279 kc122 v0 v4 s.1 v6 h
def lp_X5_duel_136 (kc122 : (Int32 × Int32 × Int32) → zAH → Option (Int32 × zAH)) (v0 : Nat) (v4 : Int32) (v6 : Int32) (s : Int32 × Int32) : zAH → Option (Int32 × zAH) := zlp (lb_X5_duel_136 kc122 v0 v4 v6) 2000 s
theorem sl_X5_duel_136 (g : zG) (l : Launch) (kc122 : (Int32 × Int32 × Int32) → zAH → Option (Int32 × zAH)) (v0 : Nat) (v4 : Int32) (v6 : Int32) (hkc122 : ∀ s, zSm g l cX5_duel 13 RX5 "duel" (some .int) 7 154 zrI 122 [(0, .ref v0), (4, .int s.1), (5, .int s.2.1), (6, .int s.2.2)] [] (kc122 s)) (s : Int32 × Int32) : zSm g l cX5_duel 13 RX5 "duel" (some .int) 7 154 zrI 136 [(0, .ref v0), (4, .int v4), (5, .int s.1), (6, .int v6), (7, .int s.2)] [] (lp_X5_duel_136 kc122 v0 v4 v6 s) := by
  unfold lp_X5_duel_136
  refine z_loop (lvf := fun s => [(0, .ref v0), (4, .int v4), (5, .int s.1), (6, .int v6), (7, .int s.2)]) (fun rec hrec s => ?_) 2000 s
  unfold lb_X5_duel_136
  refine z_iload (j := 7) (q := 138) (by decide +kernel) rfl 4 rfl ?_
  refine z_iload (j := 4) (q := 140) (by decide +kernel) rfl 1 rfl ?_
  refine z_icmp_ge (off := 139) (t := 279) (q := 143) (by decide +kernel) (by decide) rfl ?_ ?_
  · refine zsub [0, 1, 2, 3] rfl ?_
    exact sj_X5_duel_279 g l kc122 v0 v4 s.1 v6 hkc122
  · refine z_aload_n (j := 0) (q := 144) (by decide +kernel) rfl 0 rfl ?_
    refine z_getA (q := 147) zf_RX5_75 (by decide +kernel) rfl fun x1 => ?_
    refine z_iconst (n := 4) (v := 4) (q := 148) (by decide +kernel) rfl (by decide) ?_
    refine z_iload (j := 7) (q := 150) (by decide +kernel) rfl 4 rfl ?_
    refine z_imul (q := 151) (by decide +kernel) rfl ?_
    refine z_iald (q := 152) (Or.inl ⟨rfl, rfl⟩) (by decide +kernel) rfl fun x2 => ?_
    refine z_istore (j := 8) (q := 154) (by decide +kernel) rfl (by decide) rfl ?_
    refine z_iconst (n := 0) (v := 0) (q := 155) (by decide +kernel) rfl (by decide) ?_
    refine z_istore (j := 9) (q := 157) (by decide +kernel) rfl (by decide) rfl ?_
    refine z_iconst (n := 1) (v := 1) (q := 158) (by decide +kernel) rfl (by decide) ?_
    refine z_istore (j := 10) (q := 160) (by decide +kernel) rfl (by decide) rfl ?_
    refine zsub [3, 4, 5, 6, 7, 2, 1, 0] rfl ?_
    exact sl_X5_duel_160 g l kc122 rec v0 v4 s.1 v6 s.2 hkc122 hrec (x2, 0, 1)
def jn_X5_duel_285 (v0 : Nat) (v5 : Int32) : zAH → Option (Int32 × zAH) := fun h => (zgA 5 33 v0 h).bind fun x1 => (zaI 0 x1 0 h).bind fun x2 => zbd (dn_X5_tells v0 v5 x2 h) fun x3 h4 => some (x3, h4)
theorem sj_X5_duel_285 (g : zG) (l : Launch) (v0 : Nat) (v5 : Int32) : zSm g l cX5_duel 13 RX5 "duel" (some .int) 7 154 zrI 285 [(0, .ref v0), (5, .int v5)] [] (jn_X5_duel_285 v0 v5) := by
  unfold jn_X5_duel_285
  refine z_aload_n (j := 0) (q := 286) (by decide +kernel) rfl 0 rfl ?_
  refine z_iload (j := 5) (q := 288) (by decide +kernel) rfl 1 rfl ?_
  refine z_aload_n (j := 0) (q := 289) (by decide +kernel) rfl 0 rfl ?_
  refine z_getA (q := 292) zf_RX5_75 (by decide +kernel) rfl fun x1 => ?_
  refine z_iconst (n := 0) (v := 0) (q := 293) (by decide +kernel) rfl (by decide) ?_
  refine z_iald (q := 294) (Or.inl ⟨rfl, rfl⟩) (by decide +kernel) rfl fun x2 => ?_
  refine z_callVI (As := [.int v5, .int x2]) (st := []) (q := 297) (ct_X5_tells g l v0 v5 x2) zm_RX5_108 (rc_X5_tells v0 v5 x2) rfl (by decide) (by decide) (Nat.le_of_ble_eq_true rfl) rfl (by decide +kernel) rfl fun x3 => ?_
  exact z_iret (by decide +kernel)
def lb_X5_duel_122 (v0 : Nat) (rec : (Int32 × Int32 × Int32) → zAH → Option (Int32 × zAH)) (s : Int32 × Int32 × Int32) : zAH → Option (Int32 × zAH) := fun h => if s.2.2 < 0 then jn_X5_duel_285 v0 s.2.1 h else if 4 = 0 then none else lp_X5_duel_136 rec v0 (s.1 / 4) s.2.2 (s.2.1, 0) h
def lp_X5_duel_122 (v0 : Nat) (s : Int32 × Int32 × Int32) : zAH → Option (Int32 × zAH) := zlp (lb_X5_duel_122 v0) 2000 s
theorem sl_X5_duel_122 (g : zG) (l : Launch) (v0 : Nat) (s : Int32 × Int32 × Int32) : zSm g l cX5_duel 13 RX5 "duel" (some .int) 7 154 zrI 122 [(0, .ref v0), (4, .int s.1), (5, .int s.2.1), (6, .int s.2.2)] [] (lp_X5_duel_122 v0 s) := by
  unfold lp_X5_duel_122
  refine z_loop (lvf := fun s => [(0, .ref v0), (4, .int s.1), (5, .int s.2.1), (6, .int s.2.2)]) (fun rec hrec s => ?_) 2000 s
  unfold lb_X5_duel_122
  refine z_iload (j := 6) (q := 124) (by decide +kernel) rfl 3 rfl ?_
  refine z_if_lt (off := 161) (t := 285) (q := 127) (by decide +kernel) (by decide) rfl ?_ ?_
  · refine zsub [0, 2] rfl ?_
    exact sj_X5_duel_285 g l v0 s.2.1
  · refine z_iload (j := 4) (q := 129) (by decide +kernel) rfl 1 rfl ?_
    refine z_iconst (n := 4) (v := 4) (q := 130) (by decide +kernel) rfl (by decide) ?_
    refine z_idiv (q := 131) (by decide +kernel) rfl ?_
    refine z_istore (j := 4) (q := 133) (by decide +kernel) rfl (by decide) rfl ?_
    refine z_iconst (n := 0) (v := 0) (q := 134) (by decide +kernel) rfl (by decide) ?_
    refine z_istore (j := 7) (q := 136) (by decide +kernel) rfl (by decide) rfl ?_
    refine zsub [2, 1, 3, 4, 0] rfl ?_
    exact sl_X5_duel_136 g l rec v0 (s.1 / 4) s.2.2 hrec (s.2.1, 0)
def jn_X5_duel_107 (v0 : Nat) (v3 : Int32) (v4 : Int32) : zAH → Option (Int32 × zAH) := fun h => zbd (dn_X5_noChoices v0 h) fun x1 h2 => lp_X5_duel_122 v0 (v4, (-9), (2 * v3) - 1) h2
theorem sj_X5_duel_107 (g : zG) (l : Launch) (v0 : Nat) (v3 : Int32) (v4 : Int32) : zSm g l cX5_duel 13 RX5 "duel" (some .int) 7 154 zrI 107 [(0, .ref v0), (3, .int v3), (4, .int v4)] [] (jn_X5_duel_107 v0 v3 v4) := by
  unfold jn_X5_duel_107
  refine z_aload_n (j := 0) (q := 108) (by decide +kernel) rfl 0 rfl ?_
  refine z_callVU (As := []) (st := []) (q := 111) (ct_X5_noChoices g l v0) zm_RX5_224 (rc_X5_noChoices v0) rfl (by decide) (by decide) (Nat.le_of_ble_eq_true rfl) rfl (by decide +kernel) rfl fun x1 => ?_
  refine z_bipush (n := (-9)) (v := (-9)) (q := 113) (by decide +kernel) rfl (by decide) ?_
  refine z_istore (j := 5) (q := 115) (by decide +kernel) rfl (by decide) rfl ?_
  refine z_iconst (n := 2) (v := 2) (q := 116) (by decide +kernel) rfl (by decide) ?_
  refine z_iload_n (j := 3) (q := 117) (by decide +kernel) rfl 2 rfl ?_
  refine z_imul (q := 118) (by decide +kernel) rfl ?_
  refine z_iconst (n := 1) (v := 1) (q := 119) (by decide +kernel) rfl (by decide) ?_
  refine z_isub (q := 120) (by decide +kernel) rfl ?_
  refine z_istore (j := 6) (q := 122) (by decide +kernel) rfl (by decide) rfl ?_
  refine zsub [2, 4, 1, 0] rfl ?_
  exact sl_X5_duel_122 g l v0 (v4, (-9), (2 * v3) - 1)
def lb_X5_duel_47 (v0 : Nat) (v1 : Int32) (v2 : Int32) (v3 : Int32) (v4 : Int32) (rec : (Int32) → zAH → Option (Int32 × zAH)) (s : Int32) : zAH → Option (Int32 × zAH) := fun h => if s < v4 then zbd (dn_X5_layBoth v0 v1 v2 v3 s h) fun x1 h2 => zbd (dn_X5_layEnd v0 h2) fun x3 h4 => (zgA 5 33 v0 h4).bind fun x5 => zbd (dn_X5_v v0 1 h4) fun x6 h7 => if x6 = v2 then jn_X5_duel_100 rec v0 v1 v2 v3 v4 s x5 s 2 h7 else zbd (dn_X5_v v0 1 h7) fun x8 h9 => if x8 = v1 then jn_X5_duel_100 rec v0 v1 v2 v3 v4 s x5 s 0 h9 else jn_X5_duel_100 rec v0 v1 v2 v3 v4 s x5 s 1 h9 else jn_X5_duel_107 v0 v3 v4 h
def lp_X5_duel_47 (v0 : Nat) (v1 : Int32) (v2 : Int32) (v3 : Int32) (v4 : Int32) (s : Int32) : zAH → Option (Int32 × zAH) := zlp (lb_X5_duel_47 v0 v1 v2 v3 v4) 2000 s
theorem sl_X5_duel_47 (g : zG) (l : Launch) (v0 : Nat) (v1 : Int32) (v2 : Int32) (v3 : Int32) (v4 : Int32) (s : Int32) : zSm g l cX5_duel 13 RX5 "duel" (some .int) 7 154 zrI 47 [(0, .ref v0), (1, .int v1), (2, .int v2), (3, .int v3), (4, .int v4), (5, .int s)] [] (lp_X5_duel_47 v0 v1 v2 v3 v4 s) := by
  unfold lp_X5_duel_47
  refine z_loop (lvf := fun s => [(0, .ref v0), (1, .int v1), (2, .int v2), (3, .int v3), (4, .int v4), (5, .int s)]) (fun rec hrec s => ?_) 2000 s
  unfold lb_X5_duel_47
  refine z_iload (j := 5) (q := 49) (by decide +kernel) rfl 5 rfl ?_
  refine z_iload (j := 4) (q := 51) (by decide +kernel) rfl 4 rfl ?_
  refine z_icmp_ge (off := 56) (t := 107) (q := 54) (by decide +kernel) (by decide) rfl ?_ ?_
  · refine zsub [0, 3, 4] rfl ?_
    exact sj_X5_duel_107 g l v0 v3 v4
  · refine z_aload_n (j := 0) (q := 55) (by decide +kernel) rfl 0 rfl ?_
    refine z_iload_n (j := 1) (q := 56) (by decide +kernel) rfl 1 rfl ?_
    refine z_iload_n (j := 2) (q := 57) (by decide +kernel) rfl 2 rfl ?_
    refine z_iload_n (j := 3) (q := 58) (by decide +kernel) rfl 3 rfl ?_
    refine z_iload (j := 5) (q := 60) (by decide +kernel) rfl 5 rfl ?_
    refine z_callVU (As := [.int v1, .int v2, .int v3, .int s]) (st := []) (q := 63) (ct_X5_layBoth g l v0 v1 v2 v3 s) zm_RX5_262 (rc_X5_layBoth v0 v1 v2 v3 s) rfl (by decide) (by decide) (Nat.le_of_ble_eq_true rfl) rfl (by decide +kernel) rfl fun x1 => ?_
    refine z_aload_n (j := 0) (q := 64) (by decide +kernel) rfl 0 rfl ?_
    refine z_callVU (As := []) (st := []) (q := 67) (ct_X5_layEnd g l v0) zm_RX5_243 (rc_X5_layEnd v0) rfl (by decide) (by decide) (Nat.le_of_ble_eq_true rfl) rfl (by decide +kernel) rfl fun x3 => ?_
    refine z_aload_n (j := 0) (q := 68) (by decide +kernel) rfl 0 rfl ?_
    refine z_getA (q := 71) zf_RX5_75 (by decide +kernel) rfl fun x5 => ?_
    refine z_iload (j := 5) (q := 73) (by decide +kernel) rfl 5 rfl ?_
    refine z_aload_n (j := 0) (q := 74) (by decide +kernel) rfl 0 rfl ?_
    refine z_iconst (n := 1) (v := 1) (q := 75) (by decide +kernel) rfl (by decide) ?_
    refine z_callVI (As := [.int 1]) (st := [.int s, .ref x5]) (q := 78) (ct_X5_v g l v0 1) zm_RX5_190 (rc_X5_v v0 1) rfl (by decide) (by decide) (Nat.le_of_ble_eq_true rfl) rfl (by decide +kernel) rfl fun x6 => ?_
    refine z_iload_n (j := 2) (q := 79) (by decide +kernel) rfl 2 rfl ?_
    refine z_icmp_ne (off := 7) (t := 86) (q := 82) (by decide +kernel) (by decide) rfl ?_ ?_
    · refine z_aload_n (j := 0) (q := 87) (by decide +kernel) rfl 0 rfl ?_
      refine z_iconst (n := 1) (v := 1) (q := 88) (by decide +kernel) rfl (by decide) ?_
      refine z_callVI (As := [.int 1]) (st := [.int s, .ref x5]) (q := 91) (ct_X5_v g l v0 1) zm_RX5_190 (rc_X5_v v0 1) rfl (by decide) (by decide) (Nat.le_of_ble_eq_true rfl) rfl (by decide +kernel) rfl fun x8 => ?_
      refine z_iload_n (j := 1) (q := 92) (by decide +kernel) rfl 1 rfl ?_
      refine z_icmp_ne (off := 7) (t := 99) (q := 95) (by decide +kernel) (by decide) rfl ?_ ?_
      · refine z_iconst (n := 1) (v := 1) (q := 100) (by decide +kernel) rfl (by decide) ?_
        refine zsub [0, 1, 2, 3, 4, 5] rfl ?_
        exact sj_X5_duel_100 g l rec v0 v1 v2 v3 v4 s x5 s 1 hrec
      · refine z_iconst (n := 0) (v := 0) (q := 96) (by decide +kernel) rfl (by decide) ?_
        refine z_goto (off := 4) (t := 100) (by decide +kernel) (by decide) ?_
        refine zsub [0, 1, 2, 3, 4, 5] rfl ?_
        exact sj_X5_duel_100 g l rec v0 v1 v2 v3 v4 s x5 s 0 hrec
    · refine z_iconst (n := 2) (v := 2) (q := 83) (by decide +kernel) rfl (by decide) ?_
      refine z_goto (off := 17) (t := 100) (by decide +kernel) (by decide) ?_
      refine zsub [0, 1, 2, 3, 4, 5] rfl ?_
      exact sj_X5_duel_100 g l rec v0 v1 v2 v3 v4 s x5 s 2 hrec
def dn_X5_duel (v0 : Nat) (v1 : Int32) (v2 : Int32) (v3 : Int32) : zAH → Option (Int32 × zAH) := fun h => (zgO 5 v0 h).bind fun _ => zbd (dn_X5_isRunner v0 v1 h) fun x1 h2 => if x1 = 0 then jn_X5_duel_30 h2 else zbd (dn_X5_isRunner v0 v2 h2) fun x3 h4 => if x3 = 0 then jn_X5_duel_30 h4 else if v1 = v2 then jn_X5_duel_30 h4 else zbd (dn_X5_in v3 0 2 h4) fun x5 h6 => if x5 = 0 then jn_X5_duel_30 h6 else zbd (dn_X5_choicesBegin v0 h6) fun x7 h8 => zbd (dn_X5_powerOf 16 v3 h8) fun x9 h10 => lp_X5_duel_47 v0 v1 v2 v3 x9 0 h10
theorem ct_X5_duel (g : zG) (l : Launch) (v0 : Nat) (v1 : Int32) (v2 : Int32) (v3 : Int32) : zCt g l yX5_duel cX5_duel 13 (some .int) 7 154 zrI [.ref v0, .int v1, .int v2, .int v3] (dn_X5_duel v0 v1 v2 v3) := by
  refine zCt_of (lv := [(0, .ref v0), (1, .int v1), (2, .int v2), (3, .int v3)]) (by decide +kernel) (Nat.le_of_ble_eq_true rfl) rfl ?_
  show zSm g l cX5_duel 13 RX5 "duel" (some .int) 7 154 zrI 0 [(0, .ref v0), (1, .int v1), (2, .int v2), (3, .int v3)] [] (dn_X5_duel v0 v1 v2 v3)
  unfold dn_X5_duel
  refine z_rec ?_
  refine z_aload_n (j := 0) (q := 1) (by decide +kernel) rfl 0 rfl ?_
  refine z_iload_n (j := 1) (q := 2) (by decide +kernel) rfl 1 rfl ?_
  refine z_callVI (As := [.int v1]) (st := []) (q := 5) (ct_X5_isRunner g l v0 v1) zm_RX5_160 (rc_X5_isRunner v0 v1) rfl (by decide) (by decide) (Nat.le_of_ble_eq_true rfl) rfl (by decide +kernel) rfl fun x1 => ?_
  refine z_if_eq (off := 25) (t := 30) (q := 8) (by decide +kernel) (by decide) rfl ?_ ?_
  · refine zsub [] rfl ?_
    exact sj_X5_duel_30 g l 
  · refine z_aload_n (j := 0) (q := 9) (by decide +kernel) rfl 0 rfl ?_
    refine z_iload_n (j := 2) (q := 10) (by decide +kernel) rfl 2 rfl ?_
    refine z_callVI (As := [.int v2]) (st := []) (q := 13) (ct_X5_isRunner g l v0 v2) zm_RX5_160 (rc_X5_isRunner v0 v2) rfl (by decide) (by decide) (Nat.le_of_ble_eq_true rfl) rfl (by decide +kernel) rfl fun x3 => ?_
    refine z_if_eq (off := 17) (t := 30) (q := 16) (by decide +kernel) (by decide) rfl ?_ ?_
    · refine zsub [] rfl ?_
      exact sj_X5_duel_30 g l 
    · refine z_iload_n (j := 1) (q := 17) (by decide +kernel) rfl 1 rfl ?_
      refine z_iload_n (j := 2) (q := 18) (by decide +kernel) rfl 2 rfl ?_
      refine z_icmp_eq (off := 12) (t := 30) (q := 21) (by decide +kernel) (by decide) rfl ?_ ?_
      · refine zsub [] rfl ?_
        exact sj_X5_duel_30 g l 
      · refine z_iload_n (j := 3) (q := 22) (by decide +kernel) rfl 3 rfl ?_
        refine z_iconst (n := 0) (v := 0) (q := 23) (by decide +kernel) rfl (by decide) ?_
        refine z_iconst (n := 2) (v := 2) (q := 24) (by decide +kernel) rfl (by decide) ?_
        refine z_callSI (As := [.int v3, .int 0, .int 2]) (st := []) (q := 27) (ct_X5_in g l v3 0 2) zm_RX5_86 rfl (by decide) (by decide) (Nat.le_of_ble_eq_true rfl) rfl (by decide +kernel) rfl fun x5 => ?_
        refine z_if_ne (off := 5) (t := 32) (q := 30) (by decide +kernel) (by decide) rfl ?_ ?_
        · refine z_aload_n (j := 0) (q := 33) (by decide +kernel) rfl 0 rfl ?_
          refine z_callVU (As := []) (st := []) (q := 36) (ct_X5_choicesBegin g l v0) zm_RX5_249 (rc_X5_choicesBegin v0) rfl (by decide) (by decide) (Nat.le_of_ble_eq_true rfl) rfl (by decide +kernel) rfl fun x7 => ?_
          refine z_bipush (n := 16) (v := 16) (q := 38) (by decide +kernel) rfl (by decide) ?_
          refine z_iload_n (j := 3) (q := 39) (by decide +kernel) rfl 3 rfl ?_
          refine z_callSI (As := [.int 16, .int v3]) (st := []) (q := 42) (ct_X5_powerOf g l 16 v3) zm_RX5_252 rfl (by decide) (by decide) (Nat.le_of_ble_eq_true rfl) rfl (by decide +kernel) rfl fun x9 => ?_
          refine z_istore (j := 4) (q := 44) (by decide +kernel) rfl (by decide) rfl ?_
          refine z_iconst (n := 0) (v := 0) (q := 45) (by decide +kernel) rfl (by decide) ?_
          refine z_istore (j := 5) (q := 47) (by decide +kernel) rfl (by decide) rfl ?_
          refine zsub [2, 3, 4, 5, 1, 0] rfl ?_
          exact sl_X5_duel_47 g l v0 v1 v2 v3 x9 0
        · refine zsub [] rfl ?_
          exact sj_X5_duel_30 g l 
theorem rc_X5_duel (v0 : Nat) (v1 : Int32) (v2 : Int32) (v3 : Int32) : ∀ h x, dn_X5_duel v0 v1 v2 v3 h = some x → ∃ fs, zgO 5 v0 h = some fs := fun h x hd => by
  obtain ⟨fs, e, -⟩ := Option.bind_eq_some_iff.mp hd
  exact ⟨fs, e⟩
