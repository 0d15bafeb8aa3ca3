def dn_X0_init (v0 : Nat) : zAH → Option (Unit × zAH) := fun h => (zgO 0 v0 h).bind fun _ => (zpF 0 0 v0 (.int 0) h).bind fun h1 => znwI 0 40 (fun x2 h3 => (zpF 0 1 v0 (.ref x2) h3).bind fun h4 => (zpF 0 2 v0 (.int 0) h4).bind fun h5 => znwI 0 5 (fun x6 h7 => (zpF 0 3 v0 (.ref x6) h7).bind fun h8 => znwI 0 5 (fun x9 h10 => (zpF 0 4 v0 (.ref x9) h10).bind fun h11 => znwI 0 5 (fun x12 h13 => (zpF 0 5 v0 (.ref x12) h13).bind fun h14 => znwI 0 5 (fun x15 h16 => (zpF 0 6 v0 (.ref x15) h16).bind fun h17 => znwI 0 40 (fun x18 h19 => (zpF 0 7 v0 (.ref x18) h19).bind fun h20 => some ((), h20)) h17) h14) h11) h8) h5) h1
theorem ct_X0_init (g : zG) (l : Launch) (v0 : Nat) : zCt g l yX0_init cX0_init 1 none 1 12 zrV [.ref v0] (dn_X0_init v0) := by
  refine zCt_of (lv := [(0, .ref v0)]) (by decide +kernel) (Nat.le_of_ble_eq_true rfl) rfl ?_
  show zSm g l cX0_init 1 RX0 "<init>" none 1 12 zrV 0 [(0, .ref v0)] [] (dn_X0_init v0)
  unfold dn_X0_init
  refine z_rec ?_
  refine z_aload_n (j := 0) (q := 1) (by decide +kernel) rfl 0 rfl ?_
  refine z_obj (q := 4) zw98 zw89 zw90 (by decide) (by decide) (by decide +kernel) rfl ?_
  refine z_aload_n (j := 0) (q := 5) (by decide +kernel) rfl 0 rfl ?_
  refine z_iconst (n := 0) (v := 0) (q := 6) (by decide +kernel) rfl (by decide) ?_
  refine z_putV (q := 9) zp_RX0_9 (fun z => by cases z) rfl rfl (by decide +kernel) rfl ?_
  refine z_aload_n (j := 0) (q := 10) (by decide +kernel) rfl 0 rfl ?_
  refine z_bipush (n := 40) (v := 40) (q := 12) (by decide +kernel) rfl (by decide) ?_
  refine z_newI (at0 := .int) (q := 14) (Or.inl ⟨rfl, rfl⟩) zw141 (by decide +kernel) rfl fun x2 => ?_
  refine z_putV (q := 17) zp_RX0_15 (fun _ => rfl) rfl rfl (by decide +kernel) rfl ?_
  refine z_aload_n (j := 0) (q := 18) (by decide +kernel) rfl 0 rfl ?_
  refine z_iconst (n := 0) (v := 0) (q := 19) (by decide +kernel) rfl (by decide) ?_
  refine z_putV (q := 22) zp_RX0_19 (fun z => by cases z) rfl rfl (by decide +kernel) rfl ?_
  refine z_aload_n (j := 0) (q := 23) (by decide +kernel) rfl 0 rfl ?_
  refine z_iconst (n := 5) (v := 5) (q := 24) (by decide +kernel) rfl (by decide) ?_
  refine z_newI (at0 := .int) (q := 26) (Or.inl ⟨rfl, rfl⟩) zw141 (by decide +kernel) rfl fun x6 => ?_
  refine z_putV (q := 29) zp_RX0_22 (fun _ => rfl) rfl rfl (by decide +kernel) rfl ?_
  refine z_aload_n (j := 0) (q := 30) (by decide +kernel) rfl 0 rfl ?_
  refine z_iconst (n := 5) (v := 5) (q := 31) (by decide +kernel) rfl (by decide) ?_
  refine z_newI (at0 := .int) (q := 33) (Or.inl ⟨rfl, rfl⟩) zw141 (by decide +kernel) rfl fun x9 => ?_
  refine z_putV (q := 36) zp_RX0_25 (fun _ => rfl) rfl rfl (by decide +kernel) rfl ?_
  refine z_aload_n (j := 0) (q := 37) (by decide +kernel) rfl 0 rfl ?_
  refine z_iconst (n := 5) (v := 5) (q := 38) (by decide +kernel) rfl (by decide) ?_
  refine z_newI (at0 := .int) (q := 40) (Or.inl ⟨rfl, rfl⟩) zw141 (by decide +kernel) rfl fun x12 => ?_
  refine z_putV (q := 43) zp_RX0_28 (fun _ => rfl) rfl rfl (by decide +kernel) rfl ?_
  refine z_aload_n (j := 0) (q := 44) (by decide +kernel) rfl 0 rfl ?_
  refine z_iconst (n := 5) (v := 5) (q := 45) (by decide +kernel) rfl (by decide) ?_
  refine z_newI (at0 := .int) (q := 47) (Or.inl ⟨rfl, rfl⟩) zw141 (by decide +kernel) rfl fun x15 => ?_
  refine z_putV (q := 50) zp_RX0_31 (fun _ => rfl) rfl rfl (by decide +kernel) rfl ?_
  refine z_aload_n (j := 0) (q := 51) (by decide +kernel) rfl 0 rfl ?_
  refine z_bipush (n := 40) (v := 40) (q := 53) (by decide +kernel) rfl (by decide) ?_
  refine z_newI (at0 := .int) (q := 55) (Or.inl ⟨rfl, rfl⟩) zw141 (by decide +kernel) rfl fun x18 => ?_
  refine z_putV (q := 58) zp_RX0_34 (fun _ => rfl) rfl rfl (by decide +kernel) rfl ?_
  exact z_vret (by decide +kernel)
theorem rc_X0_init (v0 : Nat) : ∀ h x, dn_X0_init v0 h = some x → ∃ fs, zgO 0 v0 h = some fs := fun h x hd => by
  obtain ⟨fs, e, -⟩ := Option.bind_eq_some_iff.mp hd
  exact ⟨fs, e⟩
def jn_X0_isOf_30 (w0 : Int32) : zAH → Option (Int32 × zAH) := fun h => if w0 = 0 ∨ w0 = 1 then some (w0, h) else none
theorem sj_X0_isOf_30 (g : zG) (l : Launch) (w0 : Int32) : zSm g l cX0_isOf 2 RX0 "isOf" (some .boolean) 0 0 zrI 30 [] [.int w0] (jn_X0_isOf_30 w0) := by
  unfold jn_X0_isOf_30
  exact z_zret (by decide +kernel)
def jn_X0_isOf_25 : zAH → Option (Int32 × zAH) := fun h => jn_X0_isOf_30 1 h
theorem sj_X0_isOf_25 (g : zG) (l : Launch) : zSm g l cX0_isOf 2 RX0 "isOf" (some .boolean) 0 0 zrI 25 [] [] (jn_X0_isOf_25) := by
  unfold jn_X0_isOf_25
  refine z_iconst (n := 1) (v := 1) (q := 26) (by decide +kernel) rfl (by decide) ?_
  refine z_goto (off := 4) (t := 30) (by decide +kernel) (by decide) ?_
  refine zsub [] rfl ?_
  exact sj_X0_isOf_30 g l 1
def jn_X0_isOf_29 : zAH → Option (Int32 × zAH) := fun h => jn_X0_isOf_30 0 h
theorem sj_X0_isOf_29 (g : zG) (l : Launch) : zSm g l cX0_isOf 2 RX0 "isOf" (some .boolean) 0 0 zrI 29 [] [] (jn_X0_isOf_29) := by
  unfold jn_X0_isOf_29
  refine z_iconst (n := 0) (v := 0) (q := 30) (by decide +kernel) rfl (by decide) ?_
  refine zsub [] rfl ?_
  exact sj_X0_isOf_30 g l 0
def jn_X0_isOf_15 (v0 : Int32) (v1 : Int32) : zAH → Option (Int32 × zAH) := fun h => if v0 = 5 then if v1 = 2 then jn_X0_isOf_25 h else jn_X0_isOf_29 h else jn_X0_isOf_29 h
theorem sj_X0_isOf_15 (g : zG) (l : Launch) (v0 : Int32) (v1 : Int32) : zSm g l cX0_isOf 2 RX0 "isOf" (some .boolean) 0 0 zrI 15 [(0, .int v0), (1, .int v1)] [] (jn_X0_isOf_15 v0 v1) := by
  unfold jn_X0_isOf_15
  refine z_iload_n (j := 0) (q := 16) (by decide +kernel) rfl 0 rfl ?_
  refine z_iconst (n := 5) (v := 5) (q := 17) (by decide +kernel) rfl (by decide) ?_
  refine z_icmp_ne (off := 12) (t := 29) (q := 20) (by decide +kernel) (by decide) rfl ?_ ?_
  · refine zsub [] rfl ?_
    exact sj_X0_isOf_29 g l 
  · refine z_iload_n (j := 1) (q := 21) (by decide +kernel) rfl 1 rfl ?_
    refine z_iconst (n := 2) (v := 2) (q := 22) (by decide +kernel) rfl (by decide) ?_
    refine z_icmp_ne (off := 7) (t := 29) (q := 25) (by decide +kernel) (by decide) rfl ?_ ?_
    · refine zsub [] rfl ?_
      exact sj_X0_isOf_29 g l 
    · refine zsub [] rfl ?_
      exact sj_X0_isOf_25 g l 
def dn_X0_isOf (v0 : Int32) (v1 : Int32) : zAH → Option (Int32 × zAH) := fun h => if v0 = v1 then jn_X0_isOf_25 h else if v0 = 4 then if v1 = 1 then jn_X0_isOf_25 h else jn_X0_isOf_15 v0 v1 h else jn_X0_isOf_15 v0 v1 h
theorem ct_X0_isOf (g : zG) (l : Launch) (v0 : Int32) (v1 : Int32) : zCt g l yX0_isOf cX0_isOf 2 (some .boolean) 0 0 zrI [.int v0, .int v1] (dn_X0_isOf v0 v1) := by
  refine zCt_of (lv := [(0, .int v0), (1, .int v1)]) (by decide +kernel) (Nat.le_of_ble_eq_true rfl) rfl ?_
  show zSm g l cX0_isOf 2 RX0 "isOf" (some .boolean) 0 0 zrI 0 [(0, .int v0), (1, .int v1)] [] (dn_X0_isOf v0 v1)
  unfold dn_X0_isOf
  refine z_iload_n (j := 0) (q := 1) (by decide +kernel) rfl 0 rfl ?_
  refine z_iload_n (j := 1) (q := 2) (by decide +kernel) rfl 1 rfl ?_
  refine z_icmp_eq (off := 23) (t := 25) (q := 5) (by decide +kernel) (by decide) rfl ?_ ?_
  · refine zsub [] rfl ?_
    exact sj_X0_isOf_25 g l 
  · refine z_iload_n (j := 0) (q := 6) (by decide +kernel) rfl 0 rfl ?_
    refine z_iconst (n := 4) (v := 4) (q := 7) (by decide +kernel) rfl (by decide) ?_
    refine z_icmp_ne (off := 8) (t := 15) (q := 10) (by decide +kernel) (by decide) rfl ?_ ?_
    · refine zsub [0, 1] rfl ?_
      exact sj_X0_isOf_15 g l v0 v1
    · refine z_iload_n (j := 1) (q := 11) (by decide +kernel) rfl 1 rfl ?_
      refine z_iconst (n := 1) (v := 1) (q := 12) (by decide +kernel) rfl (by decide) ?_
      refine z_icmp_eq (off := 13) (t := 25) (q := 15) (by decide +kernel) (by decide) rfl ?_ ?_
      · refine zsub [] rfl ?_
        exact sj_X0_isOf_25 g l 
      · refine zsub [0, 1] rfl ?_
        exact sj_X0_isOf_15 g l v0 v1
def jn_J7_fill_53178_20 : zAH → Option (Unit × zAH) := fun h => some ((), h)
theorem sj_J7_fill_53178_20 (g : zG) (l : Launch) : zSm g l cJ7_fill_53178 4 RJ7 "fill" none 0 0 zrV 20 [] [] (jn_J7_fill_53178_20) := by
  unfold jn_J7_fill_53178_20
  exact z_vret (by decide +kernel)
def lb_J7_fill_53178_5 (v0 : Nat) (v1 : Int32) (v3 : Int32) (rec : (Int32) → zAH → Option (Unit × zAH)) (s : Int32) : zAH → Option (Unit × zAH) := fun h => if s < v3 then (zaS 0 v0 s v1 h).bind fun h1 => rec (s + 1) h1 else jn_J7_fill_53178_20 h
def lp_J7_fill_53178_5 (v0 : Nat) (v1 : Int32) (v3 : Int32) (s : Int32) : zAH → Option (Unit × zAH) := zlp (lb_J7_fill_53178_5 v0 v1 v3) 2000 s
theorem sl_J7_fill_53178_5 (g : zG) (l : Launch) (v0 : Nat) (v1 : Int32) (v3 : Int32) (s : Int32) : zSm g l cJ7_fill_53178 4 RJ7 "fill" none 0 0 zrV 5 [(0, .ref v0), (1, .int v1), (2, .int s), (3, .int v3)] [] (lp_J7_fill_53178_5 v0 v1 v3 s) := by
  unfold lp_J7_fill_53178_5
  refine z_loop (lvf := fun s => [(0, .ref v0), (1, .int v1), (2, .int s), (3, .int v3)]) (fun rec hrec s => ?_) 2000 s
  unfold lb_J7_fill_53178_5
  refine z_iload_n (j := 2) (q := 6) (by decide +kernel) rfl 2 rfl ?_
  refine z_iload_n (j := 3) (q := 7) (by decide +kernel) rfl 3 rfl ?_
  refine z_icmp_ge (off := 13) (t := 20) (q := 10) (by decide +kernel) (by decide) rfl ?_ ?_
  · refine zsub [] rfl ?_
    exact sj_J7_fill_53178_20 g l 
  · refine z_aload_n (j := 0) (q := 11) (by decide +kernel) rfl 0 rfl ?_
    refine z_iload_n (j := 2) (q := 12) (by decide +kernel) rfl 2 rfl ?_
    refine z_iload_n (j := 1) (q := 13) (by decide +kernel) rfl 1 rfl ?_
    refine z_iast (q := 14) (Or.inl ⟨rfl, rfl, rfl⟩) (by decide +kernel) rfl ?_
    refine z_iinc (j := 2) (n := 1) (v := 1) (q := 17) (by decide +kernel) rfl 2 rfl (by decide) (by decide) rfl ?_
    refine z_goto (off := (-12)) (t := 5) (by decide +kernel) (by decide) ?_
    refine zsub [1, 2, 0, 3] rfl ?_
    exact hrec (s + 1)
def dn_J7_fill_53178 (v0 : Nat) (v1 : Int32) : zAH → Option (Unit × zAH) := fun h => (zaN v0 h).bind fun x1 => lp_J7_fill_53178_5 v0 v1 x1 0 h
theorem ct_J7_fill_53178 (g : zG) (l : Launch) (v0 : Nat) (v1 : Int32) : zCt g l yJ7_fill_53178 cJ7_fill_53178 4 none 0 0 zrV [.ref v0, .int v1] (dn_J7_fill_53178 v0 v1) := by
  refine zCt_of (lv := [(0, .ref v0), (1, .int v1)]) (by decide +kernel) (Nat.le_of_ble_eq_true rfl) rfl ?_
  show zSm g l cJ7_fill_53178 4 RJ7 "fill" none 0 0 zrV 0 [(0, .ref v0), (1, .int v1)] [] (dn_J7_fill_53178 v0 v1)
  unfold dn_J7_fill_53178
  refine z_iconst (n := 0) (v := 0) (q := 1) (by decide +kernel) rfl (by decide) ?_
  refine z_istore_n (j := 2) (q := 2) (by decide +kernel) rfl (by decide) rfl ?_
  refine z_aload_n (j := 0) (q := 3) (by decide +kernel) rfl 1 rfl ?_
  refine z_alen (q := 4) (by decide +kernel) rfl fun x1 => ?_
  refine z_istore_n (j := 3) (q := 5) (by decide +kernel) rfl (by decide) rfl ?_
  refine zsub [2, 3, 1, 0] rfl ?_
  exact sl_J7_fill_53178_5 g l v0 v1 x1 0
def dn_X0_clear (v0 : Nat) : zAH → Option (Unit × zAH) := fun h => (zgO 0 v0 h).bind fun _ => (zpF 0 0 v0 (.int 0) h).bind fun h1 => (zpF 0 2 v0 (.int 0) h1).bind fun h2 => (zgA 0 5 v0 h2).bind fun x3 => zbd (dn_J7_fill_53178 x3 0 h2) fun x4 h5 => some ((), h5)
theorem ct_X0_clear (g : zG) (l : Launch) (v0 : Nat) : zCt g l yX0_clear cX0_clear 1 none 1 23 zrV [.ref v0] (dn_X0_clear v0) := by
  refine zCt_of (lv := [(0, .ref v0)]) (by decide +kernel) (Nat.le_of_ble_eq_true rfl) rfl ?_
  show zSm g l cX0_clear 1 RX0 "clear" none 1 23 zrV 0 [(0, .ref v0)] [] (dn_X0_clear v0)
  unfold dn_X0_clear
  refine z_rec ?_
  refine z_aload_n (j := 0) (q := 1) (by decide +kernel) rfl 0 rfl ?_
  refine z_iconst (n := 0) (v := 0) (q := 2) (by decide +kernel) rfl (by decide) ?_
  refine z_putV (q := 5) zp_RX0_9 (fun z => by cases z) rfl rfl (by decide +kernel) rfl ?_
  refine z_aload_n (j := 0) (q := 6) (by decide +kernel) rfl 0 rfl ?_
  refine z_iconst (n := 0) (v := 0) (q := 7) (by decide +kernel) rfl (by decide) ?_
  refine z_putV (q := 10) zp_RX0_19 (fun z => by cases z) rfl rfl (by decide +kernel) rfl ?_
  refine z_aload_n (j := 0) (q := 11) (by decide +kernel) rfl 0 rfl ?_
  refine z_getA (q := 14) zf_RX0_28 (by decide +kernel) rfl fun x3 => ?_
  refine z_iconst (n := 0) (v := 0) (q := 15) (by decide +kernel) rfl (by decide) ?_
  refine z_callSU (As := [.ref x3, .int 0]) (st := []) (q := 18) (ct_J7_fill_53178 g l x3 0) zm_RX0_37 rfl (by decide) (by decide) (Nat.le_of_ble_eq_true rfl) rfl (by decide +kernel) rfl fun x4 => ?_
  exact z_vret (by decide +kernel)
theorem rc_X0_clear (v0 : Nat) : ∀ h x, dn_X0_clear v0 h = some x → ∃ fs, zgO 0 v0 h = some fs := fun h x hd => by
  obtain ⟨fs, e, -⟩ := Option.bind_eq_some_iff.mp hd
  exact ⟨fs, e⟩
def jn_X0_hasRoad_12 (w0 : Int32) : zAH → Option (Int32 × zAH) := fun h => if w0 = 0 ∨ w0 = 1 then some (w0, h) else none
theorem sj_X0_hasRoad_12 (g : zG) (l : Launch) (w0 : Int32) : zSm g l cX0_hasRoad 1 RX0 "hasRoad" (some .boolean) 0 0 zrI 12 [] [.int w0] (jn_X0_hasRoad_12 w0) := by
  unfold jn_X0_hasRoad_12
  exact z_zret (by decide +kernel)
def dn_X0_hasRoad (v0 : Nat) : zAH → Option (Int32 × zAH) := fun h => (zgO 0 v0 h).bind fun _ => (zgI 0 0 v0 h).bind fun x1 => if 0 < x1 then jn_X0_hasRoad_12 1 h else jn_X0_hasRoad_12 0 h
theorem ct_X0_hasRoad (g : zG) (l : Launch) (v0 : Nat) : zCt g l yX0_hasRoad cX0_hasRoad 1 (some .boolean) 0 0 zrI [.ref v0] (dn_X0_hasRoad v0) := by
  refine zCt_of (lv := [(0, .ref v0)]) (by decide +kernel) (Nat.le_of_ble_eq_true rfl) rfl ?_
  show zSm g l cX0_hasRoad 1 RX0 "hasRoad" (some .boolean) 0 0 zrI 0 [(0, .ref v0)] [] (dn_X0_hasRoad v0)
  unfold dn_X0_hasRoad
  refine z_rec ?_
  refine z_aload_n (j := 0) (q := 1) (by decide +kernel) rfl 0 rfl ?_
  refine z_getI (q := 4) zf_RX0_9 (by decide +kernel) rfl fun x1 => ?_
  refine z_if_le (off := 7) (t := 11) (q := 7) (by decide +kernel) (by decide) rfl ?_ ?_
  · refine z_iconst (n := 0) (v := 0) (q := 12) (by decide +kernel) rfl (by decide) ?_
    refine zsub [] rfl ?_
    exact sj_X0_hasRoad_12 g l 0
  · refine z_iconst (n := 1) (v := 1) (q := 8) (by decide +kernel) rfl (by decide) ?_
    refine z_goto (off := 4) (t := 12) (by decide +kernel) (by decide) ?_
    refine zsub [] rfl ?_
    exact sj_X0_hasRoad_12 g l 1
theorem rc_X0_hasRoad (v0 : Nat) : ∀ h x, dn_X0_hasRoad v0 h = some x → ∃ fs, zgO 0 v0 h = some fs := fun h x hd => by
  obtain ⟨fs, e, -⟩ := Option.bind_eq_some_iff.mp hd
  exact ⟨fs, e⟩
def jn_X0_slopeAt_22 (w0 : Int32) : zAH → Option (Int32 × zAH) := fun h => some (w0, h)
theorem sj_X0_slopeAt_22 (g : zG) (l : Launch) (w0 : Int32) : zSm g l cX0_slopeAt 2 RX0 "slopeAt" (some .int) 0 0 zrI 22 [] [.int w0] (jn_X0_slopeAt_22 w0) := by
  unfold jn_X0_slopeAt_22
  exact z_iret (by decide +kernel)
def jn_X0_slopeAt_21 : zAH → Option (Int32 × zAH) := fun h => jn_X0_slopeAt_22 0 h
theorem sj_X0_slopeAt_21 (g : zG) (l : Launch) : zSm g l cX0_slopeAt 2 RX0 "slopeAt" (some .int) 0 0 zrI 21 [] [] (jn_X0_slopeAt_21) := by
  unfold jn_X0_slopeAt_21
  refine z_iconst (n := 0) (v := 0) (q := 22) (by decide +kernel) rfl (by decide) ?_
  refine zsub [] rfl ?_
  exact sj_X0_slopeAt_22 g l 0
def dn_X0_slopeAt (v0 : Nat) (v1 : Int32) : zAH → Option (Int32 × zAH) := fun h => (zgO 0 v0 h).bind fun _ => if v1 < 0 then jn_X0_slopeAt_21 h else (zgI 0 0 v0 h).bind fun x1 => if v1 < x1 then (zgA 0 1 v0 h).bind fun x2 => (zaI 0 x2 v1 h).bind fun x3 => jn_X0_slopeAt_22 x3 h else jn_X0_slopeAt_21 h
theorem ct_X0_slopeAt (g : zG) (l : Launch) (v0 : Nat) (v1 : Int32) : zCt g l yX0_slopeAt cX0_slopeAt 2 (some .int) 0 0 zrI [.ref v0, .int v1] (dn_X0_slopeAt v0 v1) := by
  refine zCt_of (lv := [(0, .ref v0), (1, .int v1)]) (by decide +kernel) (Nat.le_of_ble_eq_true rfl) rfl ?_
  show zSm g l cX0_slopeAt 2 RX0 "slopeAt" (some .int) 0 0 zrI 0 [(0, .ref v0), (1, .int v1)] [] (dn_X0_slopeAt v0 v1)
  unfold dn_X0_slopeAt
  refine z_rec ?_
  refine z_iload_n (j := 1) (q := 1) (by decide +kernel) rfl 1 rfl ?_
  refine z_if_lt (off := 20) (t := 21) (q := 4) (by decide +kernel) (by decide) rfl ?_ ?_
  · refine zsub [] rfl ?_
    exact sj_X0_slopeAt_21 g l 
  · refine z_iload_n (j := 1) (q := 5) (by decide +kernel) rfl 1 rfl ?_
    refine z_aload_n (j := 0) (q := 6) (by decide +kernel) rfl 0 rfl ?_
    refine z_getI (q := 9) zf_RX0_9 (by decide +kernel) rfl fun x1 => ?_
    refine z_icmp_ge (off := 12) (t := 21) (q := 12) (by decide +kernel) (by decide) rfl ?_ ?_
    · refine zsub [] rfl ?_
      exact sj_X0_slopeAt_21 g l 
    · refine z_aload_n (j := 0) (q := 13) (by decide +kernel) rfl 0 rfl ?_
      refine z_getA (q := 16) zf_RX0_15 (by decide +kernel) rfl fun x2 => ?_
      refine z_iload_n (j := 1) (q := 17) (by decide +kernel) rfl 1 rfl ?_
      refine z_iald (q := 18) (Or.inl ⟨rfl, rfl⟩) (by decide +kernel) rfl fun x3 => ?_
      refine z_goto (off := 4) (t := 22) (by decide +kernel) (by decide) ?_
      refine zsub [] rfl ?_
      exact sj_X0_slopeAt_22 g l x3
theorem rc_X0_slopeAt (v0 : Nat) (v1 : Int32) : ∀ h x, dn_X0_slopeAt v0 v1 h = some x → ∃ fs, zgO 0 v0 h = some fs := fun h x hd => by
  obtain ⟨fs, e, -⟩ := Option.bind_eq_some_iff.mp hd
  exact ⟨fs, e⟩
def jn_X0_paceAt_25 (w0 : Int32) : zAH → Option (Int32 × zAH) := fun h => some (w0, h)
theorem sj_X0_paceAt_25 (g : zG) (l : Launch) (w0 : Int32) : zSm g l cX0_paceAt 3 RX0 "paceAt" (some .int) 0 0 zrI 25 [] [.int w0] (jn_X0_paceAt_25 w0) := by
  unfold jn_X0_paceAt_25
  exact z_iret (by decide +kernel)
def jn_X0_paceAt_24 : zAH → Option (Int32 × zAH) := fun h => jn_X0_paceAt_25 0 h
theorem sj_X0_paceAt_24 (g : zG) (l : Launch) : zSm g l cX0_paceAt 3 RX0 "paceAt" (some .int) 0 0 zrI 24 [] [] (jn_X0_paceAt_24) := by
  unfold jn_X0_paceAt_24
  refine z_iconst (n := 0) (v := 0) (q := 25) (by decide +kernel) rfl (by decide) ?_
  refine zsub [] rfl ?_
  exact sj_X0_paceAt_25 g l 0
def dn_X0_paceAt (v0 : Nat) (v1 : Int32) (v2 : Int32) : zAH → Option (Int32 × zAH) := fun h => (zgO 0 v0 h).bind fun _ => if v2 < 0 then jn_X0_paceAt_24 h else if v2 < 8 then (zgA 0 7 v0 h).bind fun x1 => (zaI 0 x1 ((8 * v1) + v2) h).bind fun x2 => jn_X0_paceAt_25 x2 h else jn_X0_paceAt_24 h
theorem ct_X0_paceAt (g : zG) (l : Launch) (v0 : Nat) (v1 : Int32) (v2 : Int32) : zCt g l yX0_paceAt cX0_paceAt 3 (some .int) 0 0 zrI [.ref v0, .int v1, .int v2] (dn_X0_paceAt v0 v1 v2) := by
  refine zCt_of (lv := [(0, .ref v0), (1, .int v1), (2, .int v2)]) (by decide +kernel) (Nat.le_of_ble_eq_true rfl) rfl ?_
  show zSm g l cX0_paceAt 3 RX0 "paceAt" (some .int) 0 0 zrI 0 [(0, .ref v0), (1, .int v1), (2, .int v2)] [] (dn_X0_paceAt v0 v1 v2)
  unfold dn_X0_paceAt
  refine z_rec ?_
  refine z_iload_n (j := 2) (q := 1) (by decide +kernel) rfl 2 rfl ?_
  refine z_if_lt (off := 23) (t := 24) (q := 4) (by decide +kernel) (by decide) rfl ?_ ?_
  · refine zsub [] rfl ?_
    exact sj_X0_paceAt_24 g l 
  · refine z_iload_n (j := 2) (q := 5) (by decide +kernel) rfl 2 rfl ?_
    refine z_bipush (n := 8) (v := 8) (q := 7) (by decide +kernel) rfl (by decide) ?_
    refine z_icmp_ge (off := 17) (t := 24) (q := 10) (by decide +kernel) (by decide) rfl ?_ ?_
    · refine zsub [] rfl ?_
      exact sj_X0_paceAt_24 g l 
    · refine z_aload_n (j := 0) (q := 11) (by decide +kernel) rfl 0 rfl ?_
      refine z_getA (q := 14) zf_RX0_34 (by decide +kernel) rfl fun x1 => ?_
      refine z_bipush (n := 8) (v := 8) (q := 16) (by decide +kernel) rfl (by decide) ?_
      refine z_iload_n (j := 1) (q := 17) (by decide +kernel) rfl 1 rfl ?_
      refine z_imul (q := 18) (by decide +kernel) rfl ?_
      refine z_iload_n (j := 2) (q := 19) (by decide +kernel) rfl 2 rfl ?_
      refine z_iadd (q := 20) (by decide +kernel) rfl ?_
      refine z_iald (q := 21) (Or.inl ⟨rfl, rfl⟩) (by decide +kernel) rfl fun x2 => ?_
      refine z_goto (off := 4) (t := 25) (by decide +kernel) (by decide) ?_
      refine zsub [] rfl ?_
      exact sj_X0_paceAt_25 g l x2
theorem rc_X0_paceAt (v0 : Nat) (v1 : Int32) (v2 : Int32) : ∀ h x, dn_X0_paceAt v0 v1 v2 h = some x → ∃ fs, zgO 0 v0 h = some fs := fun h x hd => by
  obtain ⟨fs, e, -⟩ := Option.bind_eq_some_iff.mp hd
  exact ⟨fs, e⟩
def jn_X0_plannedPace_23 (w0 : Int32) : zAH → Option (Int32 × zAH) := fun h => some (w0, h)
theorem sj_X0_plannedPace_23 (g : zG) (l : Launch) (w0 : Int32) : zSm g l cX0_plannedPace 4 RX0 "plannedPace" (some .int) 1 22 zrI 23 [] [.int w0] (jn_X0_plannedPace_23 w0) := by
  unfold jn_X0_plannedPace_23
  exact z_iret (by decide +kernel)
def dn_X0_plannedPace (v0 : Nat) (v1 : Int32) (v2 : Int32) : zAH → Option (Int32 × zAH) := fun h => (zgO 0 v0 h).bind fun _ => (zgA 0 6 v0 h).bind fun x1 => (zaI 0 x1 v1 h).bind fun x2 => if 0 < x2 then if x2 = 0 then none else zbd (dn_X0_paceAt v0 v1 (v2 % x2) h) fun x3 h4 => jn_X0_plannedPace_23 x3 h4 else jn_X0_plannedPace_23 0 h
theorem ct_X0_plannedPace (g : zG) (l : Launch) (v0 : Nat) (v1 : Int32) (v2 : Int32) : zCt g l yX0_plannedPace cX0_plannedPace 4 (some .int) 1 22 zrI [.ref v0, .int v1, .int v2] (dn_X0_plannedPace v0 v1 v2) := by
  refine zCt_of (lv := [(0, .ref v0), (1, .int v1), (2, .int v2)]) (by decide +kernel) (Nat.le_of_ble_eq_true rfl) rfl ?_
  show zSm g l cX0_plannedPace 4 RX0 "plannedPace" (some .int) 1 22 zrI 0 [(0, .ref v0), (1, .int v1), (2, .int v2)] [] (dn_X0_plannedPace v0 v1 v2)
  unfold dn_X0_plannedPace
  refine z_rec ?_
  refine z_aload_n (j := 0) (q := 1) (by decide +kernel) rfl 0 rfl ?_
  refine z_getA (q := 4) zf_RX0_31 (by decide +kernel) rfl fun x1 => ?_
  refine z_iload_n (j := 1) (q := 5) (by decide +kernel) rfl 1 rfl ?_
  refine z_iald (q := 6) (Or.inl ⟨rfl, rfl⟩) (by decide +kernel) rfl fun x2 => ?_
  refine z_istore_n (j := 3) (q := 7) (by decide +kernel) rfl (by decide) rfl ?_
  refine z_iload_n (j := 3) (q := 8) (by decide +kernel) rfl 0 rfl ?_
  refine z_if_le (off := 14) (t := 22) (q := 11) (by decide +kernel) (by decide) rfl ?_ ?_
  · refine z_iconst (n := 0) (v := 0) (q := 23) (by decide +kernel) rfl (by decide) ?_
    refine zsub [] rfl ?_
    exact sj_X0_plannedPace_23 g l 0
  · refine z_aload_n (j := 0) (q := 12) (by decide +kernel) rfl 1 rfl ?_
    refine z_iload_n (j := 1) (q := 13) (by decide +kernel) rfl 2 rfl ?_
    refine z_iload_n (j := 2) (q := 14) (by decide +kernel) rfl 3 rfl ?_
    refine z_iload_n (j := 3) (q := 15) (by decide +kernel) rfl 0 rfl ?_
    refine z_irem (q := 16) (by decide +kernel) rfl ?_
    refine z_callVI (As := [.int v1, .int (v2 % x2)]) (st := []) (q := 19) (ct_X0_paceAt g l v0 v1 (v2 % x2)) zm_RX0_43 (rc_X0_paceAt v0 v1 (v2 % x2)) rfl (by decide) (by decide) (Nat.le_of_ble_eq_true rfl) rfl (by decide +kernel) rfl fun x3 => ?_
    refine z_goto (off := 4) (t := 23) (by decide +kernel) (by decide) ?_
    refine zsub [] rfl ?_
    exact sj_X0_plannedPace_23 g l x3
theorem rc_X0_plannedPace (v0 : Nat) (v1 : Int32) (v2 : Int32) : ∀ h x, dn_X0_plannedPace v0 v1 v2 h = some x → ∃ fs, zgO 0 v0 h = some fs := fun h x hd => by
  obtain ⟨fs, e, -⟩ := Option.bind_eq_some_iff.mp hd
  exact ⟨fs, e⟩
def jn_X0_pacesOf_30 (kc5 : (Int32 × Int32) → zAH → Option (Int32 × zAH)) (v0 : Nat) (v1 : Int32) (v2 : Int32) (v3 : Int32) (v4 : Int32) : zAH → Option (Int32 × zAH) := fun h => kc5 (v3, v4 + 1) h
theorem sj_X0_pacesOf_30 (g : zG) (l : Launch) (kc5 : (Int32 × Int32) → zAH → Option (Int32 × zAH)) (v0 : Nat) (v1 : Int32) (v2 : Int32) (v3 : Int32) (v4 : Int32) (hkc5 : ∀ s, zSm g l cX0_pacesOf 5 RX0 "pacesOf" (some .int) 1 22 zrI 5 [(0, .ref v0), (1, .int v1), (2, .int v2), (3, .int s.1), (4, .int s.2)] [] (kc5 s)) : zSm g l cX0_pacesOf 5 RX0 "pacesOf" (some .int) 1 22 zrI 30 [(0, .ref v0), (1, .int v1), (2, .int v2), (3, .int v3), (4, .int v4)] [] (jn_X0_pacesOf_30 kc5 v0 v1 v2 v3 v4) := by
  unfold jn_X0_pacesOf_30
  refine z_iinc (j := 4) (n := 1) (v := 1) (q := 33) (by decide +kernel) rfl 4 rfl (by decide) (by decide) rfl ?_
  refine z_goto (off := (-28)) (t := 5) (by decide +kernel) (by decide) ?_
  refine zsub [1, 2, 3, 4, 0] rfl ?_
  exact hkc5 (v3, v4 + 1)
def jn_X0_pacesOf_36 (v3 : Int32) : zAH → Option (Int32 × zAH) := fun h => some (v3, h)
theorem sj_X0_pacesOf_36 (g : zG) (l : Launch) (v3 : Int32) : zSm g l cX0_pacesOf 5 RX0 "pacesOf" (some .int) 1 22 zrI 36 [(3, .int v3)] [] (jn_X0_pacesOf_36 v3) := by
  unfold jn_X0_pacesOf_36
  refine z_iload_n (j := 3) (q := 37) (by decide +kernel) rfl 0 rfl ?_
  exact z_iret (by decide +kernel)
def lb_X0_pacesOf_5 (v0 : Nat) (v1 : Int32) (v2 : Int32) (rec : (Int32 × Int32) → zAH → Option (Int32 × zAH)) (s : Int32 × Int32) : zAH → Option (Int32 × zAH) := fun h => (zgA 0 6 v0 h).bind fun x1 => (zaI 0 x1 v1 h).bind fun x2 => if s.2 < x2 then zbd (dn_X0_paceAt v0 v1 s.2 h) fun x3 h4 => if x3 = v2 then jn_X0_pacesOf_30 rec v0 v1 v2 (s.1 + 1) s.2 h4 else jn_X0_pacesOf_30 rec v0 v1 v2 s.1 s.2 h4 else jn_X0_pacesOf_36 s.1 h
def lp_X0_pacesOf_5 (v0 : Nat) (v1 : Int32) (v2 : Int32) (s : Int32 × Int32) : zAH → Option (Int32 × zAH) := zlp (lb_X0_pacesOf_5 v0 v1 v2) 2000 s
theorem sl_X0_pacesOf_5 (g : zG) (l : Launch) (v0 : Nat) (v1 : Int32) (v2 : Int32) (s : Int32 × Int32) : zSm g l cX0_pacesOf 5 RX0 "pacesOf" (some .int) 1 22 zrI 5 [(0, .ref v0), (1, .int v1), (2, .int v2), (3, .int s.1), (4, .int s.2)] [] (lp_X0_pacesOf_5 v0 v1 v2 s) := by
  unfold lp_X0_pacesOf_5
  refine z_loop (lvf := fun s => [(0, .ref v0), (1, .int v1), (2, .int v2), (3, .int s.1), (4, .int s.2)]) (fun rec hrec s => ?_) 2000 s
  unfold lb_X0_pacesOf_5
  refine z_iload (j := 4) (q := 7) (by decide +kernel) rfl 4 rfl ?_
  refine z_aload_n (j := 0) (q := 8) (by decide +kernel) rfl 0 rfl ?_
  refine z_getA (q := 11) zf_RX0_31 (by decide +kernel) rfl fun x1 => ?_
  refine z_iload_n (j := 1) (q := 12) (by decide +kernel) rfl 1 rfl ?_
  refine z_iald (q := 13) (Or.inl ⟨rfl, rfl⟩) (by decide +kernel) rfl fun x2 => ?_
  refine z_icmp_ge (off := 23) (t := 36) (q := 16) (by decide +kernel) (by decide) rfl ?_ ?_
  · refine zsub [3] rfl ?_
    exact sj_X0_pacesOf_36 g l s.1
  · refine z_aload_n (j := 0) (q := 17) (by decide +kernel) rfl 0 rfl ?_
    refine z_iload_n (j := 1) (q := 18) (by decide +kernel) rfl 1 rfl ?_
    refine z_iload (j := 4) (q := 20) (by decide +kernel) rfl 4 rfl ?_
    refine z_callVI (As := [.int v1, .int s.2]) (st := []) (q := 23) (ct_X0_paceAt g l v0 v1 s.2) zm_RX0_43 (rc_X0_paceAt v0 v1 s.2) rfl (by decide) (by decide) (Nat.le_of_ble_eq_true rfl) rfl (by decide +kernel) rfl fun x3 => ?_
    refine z_iload_n (j := 2) (q := 24) (by decide +kernel) rfl 2 rfl ?_
    refine z_icmp_ne (off := 6) (t := 30) (q := 27) (by decide +kernel) (by decide) rfl ?_ ?_
    · refine zsub [0, 1, 2, 3, 4] rfl ?_
      exact sj_X0_pacesOf_30 g l rec v0 v1 v2 s.1 s.2 hrec
    · refine z_iinc (j := 3) (n := 1) (v := 1) (q := 30) (by decide +kernel) rfl 3 rfl (by decide) (by decide) rfl ?_
      refine zsub [1, 2, 3, 0, 4] rfl ?_
      exact sj_X0_pacesOf_30 g l rec v0 v1 v2 (s.1 + 1) s.2 hrec
def dn_X0_pacesOf (v0 : Nat) (v1 : Int32) (v2 : Int32) : zAH → Option (Int32 × zAH) := fun h => (zgO 0 v0 h).bind fun _ => lp_X0_pacesOf_5 v0 v1 v2 (0, 0) h
theorem ct_X0_pacesOf (g : zG) (l : Launch) (v0 : Nat) (v1 : Int32) (v2 : Int32) : zCt g l yX0_pacesOf cX0_pacesOf 5 (some .int) 1 22 zrI [.ref v0, .int v1, .int v2] (dn_X0_pacesOf v0 v1 v2) := by
  refine zCt_of (lv := [(0, .ref v0), (1, .int v1), (2, .int v2)]) (by decide +kernel) (Nat.le_of_ble_eq_true rfl) rfl ?_
  show zSm g l cX0_pacesOf 5 RX0 "pacesOf" (some .int) 1 22 zrI 0 [(0, .ref v0), (1, .int v1), (2, .int v2)] [] (dn_X0_pacesOf v0 v1 v2)
  unfold dn_X0_pacesOf
  refine z_rec ?_
  refine z_iconst (n := 0) (v := 0) (q := 1) (by decide +kernel) rfl (by decide) ?_
  refine z_istore_n (j := 3) (q := 2) (by decide +kernel) rfl (by decide) rfl ?_
  refine z_iconst (n := 0) (v := 0) (q := 3) (by decide +kernel) rfl (by decide) ?_
  refine z_istore (j := 4) (q := 5) (by decide +kernel) rfl (by decide) rfl ?_
  refine zsub [2, 3, 4, 1, 0] rfl ?_
  exact sl_X0_pacesOf_5 g l v0 v1 v2 (0, 0)
theorem rc_X0_pacesOf (v0 : Nat) (v1 : Int32) (v2 : Int32) : ∀ h x, dn_X0_pacesOf v0 v1 v2 h = some x → ∃ fs, zgO 0 v0 h = some fs := fun h x hd => by
  obtain ⟨fs, e, -⟩ := Option.bind_eq_some_iff.mp hd
  exact ⟨fs, e⟩
def jn_X0_climbs_24 (kc4 : (Int32 × Int32) → zAH → Option (Int32 × zAH)) (v0 : Nat) (v1 : Int32) (v2 : Int32) : zAH → Option (Int32 × zAH) := fun h => kc4 (v1, v2 + 1) h
theorem sj_X0_climbs_24 (g : zG) (l : Launch) (kc4 : (Int32 × Int32) → zAH → Option (Int32 × zAH)) (v0 : Nat) (v1 : Int32) (v2 : Int32) (hkc4 : ∀ s, zSm g l cX0_climbs 3 RX0 "climbs" (some .int) 0 0 zrI 4 [(0, .ref v0), (1, .int s.1), (2, .int s.2)] [] (kc4 s)) : zSm g l cX0_climbs 3 RX0 "climbs" (some .int) 0 0 zrI 24 [(0, .ref v0), (1, .int v1), (2, .int v2)] [] (jn_X0_climbs_24 kc4 v0 v1 v2) := by
  unfold jn_X0_climbs_24
  refine z_iinc (j := 2) (n := 1) (v := 1) (q := 27) (by decide +kernel) rfl 2 rfl (by decide) (by decide) rfl ?_
  refine z_goto (off := (-23)) (t := 4) (by decide +kernel) (by decide) ?_
  refine zsub [1, 2, 0] rfl ?_
  exact hkc4 (v1, v2 + 1)
def jn_X0_climbs_30 (v1 : Int32) : zAH → Option (Int32 × zAH) := fun h => some (v1, h)
theorem sj_X0_climbs_30 (g : zG) (l : Launch) (v1 : Int32) : zSm g l cX0_climbs 3 RX0 "climbs" (some .int) 0 0 zrI 30 [(1, .int v1)] [] (jn_X0_climbs_30 v1) := by
  unfold jn_X0_climbs_30
  refine z_iload_n (j := 1) (q := 31) (by decide +kernel) rfl 0 rfl ?_
  exact z_iret (by decide +kernel)
def lb_X0_climbs_4 (v0 : Nat) (rec : (Int32 × Int32) → zAH → Option (Int32 × zAH)) (s : Int32 × Int32) : zAH → Option (Int32 × zAH) := fun h => (zgI 0 0 v0 h).bind fun x1 => if s.2 < x1 then (zgA 0 1 v0 h).bind fun x2 => (zaI 0 x2 s.2 h).bind fun x3 => if 0 < x3 then jn_X0_climbs_24 rec v0 (s.1 + 1) s.2 h else jn_X0_climbs_24 rec v0 s.1 s.2 h else jn_X0_climbs_30 s.1 h
def lp_X0_climbs_4 (v0 : Nat) (s : Int32 × Int32) : zAH → Option (Int32 × zAH) := zlp (lb_X0_climbs_4 v0) 2000 s
theorem sl_X0_climbs_4 (g : zG) (l : Launch) (v0 : Nat) (s : Int32 × Int32) : zSm g l cX0_climbs 3 RX0 "climbs" (some .int) 0 0 zrI 4 [(0, .ref v0), (1, .int s.1), (2, .int s.2)] [] (lp_X0_climbs_4 v0 s) := by
  unfold lp_X0_climbs_4
  refine z_loop (lvf := fun s => [(0, .ref v0), (1, .int s.1), (2, .int s.2)]) (fun rec hrec s => ?_) 2000 s
  unfold lb_X0_climbs_4
  refine z_iload_n (j := 2) (q := 5) (by decide +kernel) rfl 2 rfl ?_
  refine z_aload_n (j := 0) (q := 6) (by decide +kernel) rfl 0 rfl ?_
  refine z_getI (q := 9) zf_RX0_9 (by decide +kernel) rfl fun x1 => ?_
  refine z_icmp_ge (off := 21) (t := 30) (q := 12) (by decide +kernel) (by decide) rfl ?_ ?_
  · refine zsub [1] rfl ?_
    exact sj_X0_climbs_30 g l s.1
  · refine z_aload_n (j := 0) (q := 13) (by decide +kernel) rfl 0 rfl ?_
    refine z_getA (q := 16) zf_RX0_15 (by decide +kernel) rfl fun x2 => ?_
    refine z_iload_n (j := 2) (q := 17) (by decide +kernel) rfl 2 rfl ?_
    refine z_iald (q := 18) (Or.inl ⟨rfl, rfl⟩) (by decide +kernel) rfl fun x3 => ?_
    refine z_if_le (off := 6) (t := 24) (q := 21) (by decide +kernel) (by decide) rfl ?_ ?_
    · refine zsub [0, 1, 2] rfl ?_
      exact sj_X0_climbs_24 g l rec v0 s.1 s.2 hrec
    · refine z_iinc (j := 1) (n := 1) (v := 1) (q := 24) (by decide +kernel) rfl 1 rfl (by decide) (by decide) rfl ?_
      refine zsub [1, 0, 2] rfl ?_
      exact sj_X0_climbs_24 g l rec v0 (s.1 + 1) s.2 hrec
def dn_X0_climbs (v0 : Nat) : zAH → Option (Int32 × zAH) := fun h => (zgO 0 v0 h).bind fun _ => lp_X0_climbs_4 v0 (0, 0) h
theorem ct_X0_climbs (g : zG) (l : Launch) (v0 : Nat) : zCt g l yX0_climbs cX0_climbs 3 (some .int) 0 0 zrI [.ref v0] (dn_X0_climbs v0) := by
  refine zCt_of (lv := [(0, .ref v0)]) (by decide +kernel) (Nat.le_of_ble_eq_true rfl) rfl ?_
  show zSm g l cX0_climbs 3 RX0 "climbs" (some .int) 0 0 zrI 0 [(0, .ref v0)] [] (dn_X0_climbs v0)
  unfold dn_X0_climbs
  refine z_rec ?_
  refine z_iconst (n := 0) (v := 0) (q := 1) (by decide +kernel) rfl (by decide) ?_
  refine z_istore_n (j := 1) (q := 2) (by decide +kernel) rfl (by decide) rfl ?_
  refine z_iconst (n := 0) (v := 0) (q := 3) (by decide +kernel) rfl (by decide) ?_
  refine z_istore_n (j := 2) (q := 4) (by decide +kernel) rfl (by decide) rfl ?_
  refine zsub [2, 1, 0] rfl ?_
  exact sl_X0_climbs_4 g l v0 (0, 0)
theorem rc_X0_climbs (v0 : Nat) : ∀ h x, dn_X0_climbs v0 h = some x → ∃ fs, zgO 0 v0 h = some fs := fun h x hd => by
  obtain ⟨fs, e, -⟩ := Option.bind_eq_some_iff.mp hd
  exact ⟨fs, e⟩
def jn_X0_goats_28 (kc4 : (Int32 × Int32) → zAH → Option (Int32 × zAH)) (v0 : Nat) (v1 : Int32) (v2 : Int32) : zAH → Option (Int32 × zAH) := fun h => kc4 (v1, v2 + 1) h
theorem sj_X0_goats_28 (g : zG) (l : Launch) (kc4 : (Int32 × Int32) → zAH → Option (Int32 × zAH)) (v0 : Nat) (v1 : Int32) (v2 : Int32) (hkc4 : ∀ s, zSm g l cX0_goats 3 RX0 "goats" (some .int) 1 21 zrI 4 [(0, .ref v0), (1, .int s.1), (2, .int s.2)] [] (kc4 s)) : zSm g l cX0_goats 3 RX0 "goats" (some .int) 1 21 zrI 28 [(0, .ref v0), (1, .int v1), (2, .int v2)] [] (jn_X0_goats_28 kc4 v0 v1 v2) := by
  unfold jn_X0_goats_28
  refine z_iinc (j := 2) (n := 1) (v := 1) (q := 31) (by decide +kernel) rfl 2 rfl (by decide) (by decide) rfl ?_
  refine z_goto (off := (-27)) (t := 4) (by decide +kernel) (by decide) ?_
  refine zsub [1, 2, 0] rfl ?_
  exact hkc4 (v1, v2 + 1)
def jn_X0_goats_34 (v1 : Int32) : zAH → Option (Int32 × zAH) := fun h => some (v1, h)
theorem sj_X0_goats_34 (g : zG) (l : Launch) (v1 : Int32) : zSm g l cX0_goats 3 RX0 "goats" (some .int) 1 21 zrI 34 [(1, .int v1)] [] (jn_X0_goats_34 v1) := by
  unfold jn_X0_goats_34
  refine z_iload_n (j := 1) (q := 35) (by decide +kernel) rfl 0 rfl ?_
  exact z_iret (by decide +kernel)
def lb_X0_goats_4 (v0 : Nat) (rec : (Int32 × Int32) → zAH → Option (Int32 × zAH)) (s : Int32 × Int32) : zAH → Option (Int32 × zAH) := fun h => (zgI 0 2 v0 h).bind fun x1 => if s.2 < x1 then (zgA 0 3 v0 h).bind fun x2 => (zaI 0 x2 s.2 h).bind fun x3 => zbd (dn_X0_isOf x3 1 h) fun x4 h5 => if x4 = 0 then jn_X0_goats_28 rec v0 s.1 s.2 h5 else jn_X0_goats_28 rec v0 (s.1 + 1) s.2 h5 else jn_X0_goats_34 s.1 h
def lp_X0_goats_4 (v0 : Nat) (s : Int32 × Int32) : zAH → Option (Int32 × zAH) := zlp (lb_X0_goats_4 v0) 2000 s
theorem sl_X0_goats_4 (g : zG) (l : Launch) (v0 : Nat) (s : Int32 × Int32) : zSm g l cX0_goats 3 RX0 "goats" (some .int) 1 21 zrI 4 [(0, .ref v0), (1, .int s.1), (2, .int s.2)] [] (lp_X0_goats_4 v0 s) := by
  unfold lp_X0_goats_4
  refine z_loop (lvf := fun s => [(0, .ref v0), (1, .int s.1), (2, .int s.2)]) (fun rec hrec s => ?_) 2000 s
  unfold lb_X0_goats_4
  refine z_iload_n (j := 2) (q := 5) (by decide +kernel) rfl 2 rfl ?_
  refine z_aload_n (j := 0) (q := 6) (by decide +kernel) rfl 0 rfl ?_
  refine z_getI (q := 9) zf_RX0_19 (by decide +kernel) rfl fun x1 => ?_
  refine z_icmp_ge (off := 25) (t := 34) (q := 12) (by decide +kernel) (by decide) rfl ?_ ?_
  · refine zsub [1] rfl ?_
    exact sj_X0_goats_34 g l s.1
  · refine z_aload_n (j := 0) (q := 13) (by decide +kernel) rfl 0 rfl ?_
    refine z_getA (q := 16) zf_RX0_22 (by decide +kernel) rfl fun x2 => ?_
    refine z_iload_n (j := 2) (q := 17) (by decide +kernel) rfl 2 rfl ?_
    refine z_iald (q := 18) (Or.inl ⟨rfl, rfl⟩) (by decide +kernel) rfl fun x3 => ?_
    refine z_iconst (n := 1) (v := 1) (q := 19) (by decide +kernel) rfl (by decide) ?_
    refine z_callSI (As := [.int x3, .int 1]) (st := []) (q := 22) (ct_X0_isOf g l x3 1) zm_RX0_47 rfl (by decide) (by decide) (Nat.le_of_ble_eq_true rfl) rfl (by decide +kernel) rfl fun x4 => ?_
    refine z_if_eq (off := 6) (t := 28) (q := 25) (by decide +kernel) (by decide) rfl ?_ ?_
    · refine zsub [0, 1, 2] rfl ?_
      exact sj_X0_goats_28 g l rec v0 s.1 s.2 hrec
    · refine z_iinc (j := 1) (n := 1) (v := 1) (q := 28) (by decide +kernel) rfl 1 rfl (by decide) (by decide) rfl ?_
      refine zsub [1, 0, 2] rfl ?_
      exact sj_X0_goats_28 g l rec v0 (s.1 + 1) s.2 hrec
def dn_X0_goats (v0 : Nat) : zAH → Option (Int32 × zAH) := fun h => (zgO 0 v0 h).bind fun _ => lp_X0_goats_4 v0 (0, 0) h
theorem ct_X0_goats (g : zG) (l : Launch) (v0 : Nat) : zCt g l yX0_goats cX0_goats 3 (some .int) 1 21 zrI [.ref v0] (dn_X0_goats v0) := by
  refine zCt_of (lv := [(0, .ref v0)]) (by decide +kernel) (Nat.le_of_ble_eq_true rfl) rfl ?_
  show zSm g l cX0_goats 3 RX0 "goats" (some .int) 1 21 zrI 0 [(0, .ref v0)] [] (dn_X0_goats v0)
  unfold dn_X0_goats
  refine z_rec ?_
  refine z_iconst (n := 0) (v := 0) (q := 1) (by decide +kernel) rfl (by decide) ?_
  refine z_istore_n (j := 1) (q := 2) (by decide +kernel) rfl (by decide) rfl ?_
  refine z_iconst (n := 0) (v := 0) (q := 3) (by decide +kernel) rfl (by decide) ?_
  refine z_istore_n (j := 2) (q := 4) (by decide +kernel) rfl (by decide) rfl ?_
  refine zsub [2, 1, 0] rfl ?_
  exact sl_X0_goats_4 g l v0 (0, 0)
theorem rc_X0_goats (v0 : Nat) : ∀ h x, dn_X0_goats v0 h = some x → ∃ fs, zgO 0 v0 h = some fs := fun h x hd => by
  obtain ⟨fs, e, -⟩ := Option.bind_eq_some_iff.mp hd
  exact ⟨fs, e⟩
def dn_X0_detail (v0 : Nat) (v1 : Int32) (v2 : Int32) : zAH → Option (Int32 × zAH) := fun h => (zgO 0 v0 h).bind fun _ => if v2 = 0 then (zgA 0 3 v0 h).bind fun x1 => (zaI 0 x1 v1 h).bind fun x2 => some (x2, h) else if v2 = 1 then (zgA 0 4 v0 h).bind fun x4 => (zaI 0 x4 v1 h).bind fun x5 => some (x5, h) else if v2 = 2 then (zgA 0 5 v0 h).bind fun x7 => (zaI 0 x7 v1 h).bind fun x8 => some (x8, h) else (zgA 0 6 v0 h).bind fun x10 => (zaI 0 x10 v1 h).bind fun x11 => some (x11, h)
theorem ct_X0_detail (g : zG) (l : Launch) (v0 : Nat) (v1 : Int32) (v2 : Int32) : zCt g l yX0_detail cX0_detail 3 (some .int) 0 0 zrI [.ref v0, .int v1, .int v2] (dn_X0_detail v0 v1 v2) := by
  refine zCt_of (lv := [(0, .ref v0), (1, .int v1), (2, .int v2)]) (by decide +kernel) (Nat.le_of_ble_eq_true rfl) rfl ?_
  show zSm g l cX0_detail 3 RX0 "detail" (some .int) 0 0 zrI 0 [(0, .ref v0), (1, .int v1), (2, .int v2)] [] (dn_X0_detail v0 v1 v2)
  unfold dn_X0_detail
  refine z_rec ?_
  refine z_iload_n (j := 2) (q := 1) (by decide +kernel) rfl 2 rfl ?_
  refine z_case (fun c3 => ?_) (fun c3 => ?_)
  · refine z_tabIn (v := 0) (off := 27) (t := 28) c3 (by decide +kernel : decode cX0_detail 1 = .ok (.tableswitch 48 0 2 #[27, 34, 41], 27)) (by decide) (by decide) (by decide) (by decide) ?_
    refine z_aload_n (j := 0) (q := 29) (by decide +kernel) rfl 0 rfl ?_
    refine z_getA (q := 32) zf_RX0_22 (by decide +kernel) rfl fun x1 => ?_
    refine z_iload_n (j := 1) (q := 33) (by decide +kernel) rfl 1 rfl ?_
    refine z_iald (q := 34) (Or.inl ⟨rfl, rfl⟩) (by decide +kernel) rfl fun x2 => ?_
    exact z_iret (by decide +kernel)
  · skip
    refine z_case (fun c6 => ?_) (fun c6 => ?_)
    · refine z_tabIn (v := 1) (off := 34) (t := 35) c6 (by decide +kernel : decode cX0_detail 1 = .ok (.tableswitch 48 0 2 #[27, 34, 41], 27)) (by decide) (by decide) (by decide) (by decide) ?_
      refine z_aload_n (j := 0) (q := 36) (by decide +kernel) rfl 0 rfl ?_
      refine z_getA (q := 39) zf_RX0_25 (by decide +kernel) rfl fun x4 => ?_
      refine z_iload_n (j := 1) (q := 40) (by decide +kernel) rfl 1 rfl ?_
      refine z_iald (q := 41) (Or.inl ⟨rfl, rfl⟩) (by decide +kernel) rfl fun x5 => ?_
      exact z_iret (by decide +kernel)
    · skip
      refine z_case (fun c9 => ?_) (fun c9 => ?_)
      · refine z_tabIn (v := 2) (off := 41) (t := 42) c9 (by decide +kernel : decode cX0_detail 1 = .ok (.tableswitch 48 0 2 #[27, 34, 41], 27)) (by decide) (by decide) (by decide) (by decide) ?_
        refine z_aload_n (j := 0) (q := 43) (by decide +kernel) rfl 0 rfl ?_
        refine z_getA (q := 46) zf_RX0_28 (by decide +kernel) rfl fun x7 => ?_
        refine z_iload_n (j := 1) (q := 47) (by decide +kernel) rfl 1 rfl ?_
        refine z_iald (q := 48) (Or.inl ⟨rfl, rfl⟩) (by decide +kernel) rfl fun x8 => ?_
        exact z_iret (by decide +kernel)
      · skip
        have nc3 := lv_neT (a := 0) c3 (by decide)
        have nc6 := lv_neT (a := 1) c6 (by decide)
        have nc9 := lv_neT (a := 2) c9 (by decide)
        refine z_tabOut (t := 49) (by decide +kernel : decode cX0_detail 1 = .ok (.tableswitch 48 0 2 #[27, 34, 41], 27)) (Or.inl (by omega)) (by decide) ?_
        refine z_aload_n (j := 0) (q := 50) (by decide +kernel) rfl 0 rfl ?_
        refine z_getA (q := 53) zf_RX0_31 (by decide +kernel) rfl fun x10 => ?_
        refine z_iload_n (j := 1) (q := 54) (by decide +kernel) rfl 1 rfl ?_
        refine z_iald (q := 55) (Or.inl ⟨rfl, rfl⟩) (by decide +kernel) rfl fun x11 => ?_
        exact z_iret (by decide +kernel)
theorem rc_X0_detail (v0 : Nat) (v1 : Int32) (v2 : Int32) : ∀ h x, dn_X0_detail v0 v1 v2 h = some x → ∃ fs, zgO 0 v0 h = some fs := fun h x hd => by
  obtain ⟨fs, e, -⟩ := Option.bind_eq_some_iff.mp hd
  exact ⟨fs, e⟩
def dn_X1_init (v0 : Nat) : zAH → Option (Unit × zAH) := fun h => (zgO 1 v0 h).bind fun _ => (zpF 1 0 v0 (.int 0) h).bind fun h1 => (zpF 1 1 v0 (.int 0) h1).bind fun h2 => (zpF 1 2 v0 (.int 0) h2).bind fun h3 => (zpF 1 3 v0 (.int 0) h3).bind fun h4 => (zpF 1 4 v0 (.int 0) h4).bind fun h5 => (zpF 1 5 v0 (.int 0) h5).bind fun h6 => znwI 0 5 (fun x7 h8 => (zpF 1 6 v0 (.ref x7) h8).bind fun h9 => znwI 0 5 (fun x10 h11 => (zpF 1 7 v0 (.ref x10) h11).bind fun h12 => znwI 0 5 (fun x13 h14 => (zpF 1 8 v0 (.ref x13) h14).bind fun h15 => znwI 0 5 (fun x16 h17 => (zpF 1 9 v0 (.ref x16) h17).bind fun h18 => znwI 0 5 (fun x19 h20 => (zpF 1 10 v0 (.ref x19) h20).bind fun h21 => znwI 0 5 (fun x22 h23 => (zpF 1 11 v0 (.ref x22) h23).bind fun h24 => some ((), h24)) h21) h18) h15) h12) h9) h6
theorem ct_X1_init (g : zG) (l : Launch) (v0 : Nat) : zCt g l yX1_init cX1_init 1 none 1 12 zrV [.ref v0] (dn_X1_init v0) := by
  refine zCt_of (lv := [(0, .ref v0)]) (by decide +kernel) (Nat.le_of_ble_eq_true rfl) rfl ?_
  show zSm g l cX1_init 1 RX1 "<init>" none 1 12 zrV 0 [(0, .ref v0)] [] (dn_X1_init v0)
  unfold dn_X1_init
  refine z_rec ?_
  refine z_aload_n (j := 0) (q := 1) (by decide +kernel) rfl 0 rfl ?_
  refine z_obj (q := 4) zw147 zw89 zw90 (by decide) (by decide) (by decide +kernel) rfl ?_
  refine z_aload_n (j := 0) (q := 5) (by decide +kernel) rfl 0 rfl ?_
  refine z_iconst (n := 0) (v := 0) (q := 6) (by decide +kernel) rfl (by decide) ?_
  refine z_putV (q := 9) zp_RX1_9 (fun z => by cases z) rfl rfl (by decide +kernel) rfl ?_
  refine z_aload_n (j := 0) (q := 10) (by decide +kernel) rfl 0 rfl ?_
  refine z_iconst (n := 0) (v := 0) (q := 11) (by decide +kernel) rfl (by decide) ?_
  refine z_putV (q := 14) zp_RX1_15 (fun z => by cases z) rfl rfl (by decide +kernel) rfl ?_
  refine z_aload_n (j := 0) (q := 15) (by decide +kernel) rfl 0 rfl ?_
  refine z_iconst (n := 0) (v := 0) (q := 16) (by decide +kernel) rfl (by decide) ?_
  refine z_putV (q := 19) zp_RX1_18 (fun z => by cases z) rfl rfl (by decide +kernel) rfl ?_
  refine z_aload_n (j := 0) (q := 20) (by decide +kernel) rfl 0 rfl ?_
  refine z_iconst (n := 0) (v := 0) (q := 21) (by decide +kernel) rfl (by decide) ?_
  refine z_putV (q := 24) zp_RX1_21 (fun z => by cases z) rfl rfl (by decide +kernel) rfl ?_
  refine z_aload_n (j := 0) (q := 25) (by decide +kernel) rfl 0 rfl ?_
  refine z_iconst (n := 0) (v := 0) (q := 26) (by decide +kernel) rfl (by decide) ?_
  refine z_putV (q := 29) zp_RX1_24 (fun z => by cases z) rfl rfl (by decide +kernel) rfl ?_
  refine z_aload_n (j := 0) (q := 30) (by decide +kernel) rfl 0 rfl ?_
  refine z_iconst (n := 0) (v := 0) (q := 31) (by decide +kernel) rfl (by decide) ?_
  refine z_putV (q := 34) zp_RX1_27 (fun z => by cases z) rfl rfl (by decide +kernel) rfl ?_
  refine z_aload_n (j := 0) (q := 35) (by decide +kernel) rfl 0 rfl ?_
  refine z_iconst (n := 5) (v := 5) (q := 36) (by decide +kernel) rfl (by decide) ?_
  refine z_newI (at0 := .int) (q := 38) (Or.inl ⟨rfl, rfl⟩) zw141 (by decide +kernel) rfl fun x7 => ?_
  refine z_putV (q := 41) zp_RX1_31 (fun _ => rfl) rfl rfl (by decide +kernel) rfl ?_
  refine z_aload_n (j := 0) (q := 42) (by decide +kernel) rfl 0 rfl ?_
  refine z_iconst (n := 5) (v := 5) (q := 43) (by decide +kernel) rfl (by decide) ?_
  refine z_newI (at0 := .int) (q := 45) (Or.inl ⟨rfl, rfl⟩) zw141 (by decide +kernel) rfl fun x10 => ?_
  refine z_putV (q := 48) zp_RX1_35 (fun _ => rfl) rfl rfl (by decide +kernel) rfl ?_
  refine z_aload_n (j := 0) (q := 49) (by decide +kernel) rfl 0 rfl ?_
  refine z_iconst (n := 5) (v := 5) (q := 50) (by decide +kernel) rfl (by decide) ?_
  refine z_newI (at0 := .int) (q := 52) (Or.inl ⟨rfl, rfl⟩) zw141 (by decide +kernel) rfl fun x13 => ?_
  refine z_putV (q := 55) zp_RX1_38 (fun _ => rfl) rfl rfl (by decide +kernel) rfl ?_
  refine z_aload_n (j := 0) (q := 56) (by decide +kernel) rfl 0 rfl ?_
  refine z_iconst (n := 5) (v := 5) (q := 57) (by decide +kernel) rfl (by decide) ?_
  refine z_newI (at0 := .int) (q := 59) (Or.inl ⟨rfl, rfl⟩) zw141 (by decide +kernel) rfl fun x16 => ?_
  refine z_putV (q := 62) zp_RX1_41 (fun _ => rfl) rfl rfl (by decide +kernel) rfl ?_
  refine z_aload_n (j := 0) (q := 63) (by decide +kernel) rfl 0 rfl ?_
  refine z_iconst (n := 5) (v := 5) (q := 64) (by decide +kernel) rfl (by decide) ?_
  refine z_newI (at0 := .int) (q := 66) (Or.inl ⟨rfl, rfl⟩) zw141 (by decide +kernel) rfl fun x19 => ?_
  refine z_putV (q := 69) zp_RX1_44 (fun _ => rfl) rfl rfl (by decide +kernel) rfl ?_
  refine z_aload_n (j := 0) (q := 70) (by decide +kernel) rfl 0 rfl ?_
  refine z_iconst (n := 5) (v := 5) (q := 71) (by decide +kernel) rfl (by decide) ?_
  refine z_newI (at0 := .int) (q := 73) (Or.inl ⟨rfl, rfl⟩) zw141 (by decide +kernel) rfl fun x22 => ?_
  refine z_putV (q := 76) zp_RX1_47 (fun _ => rfl) rfl rfl (by decide +kernel) rfl ?_
  exact z_vret (by decide +kernel)
theorem rc_X1_init (v0 : Nat) : ∀ h x, dn_X1_init v0 h = some x → ∃ fs, zgO 1 v0 h = some fs := fun h x hd => by
  obtain ⟨fs, e, -⟩ := Option.bind_eq_some_iff.mp hd
  exact ⟨fs, e⟩
def jn_X1_noteEnd_33 : zAH → Option (Unit × zAH) := fun h => some ((), h)
theorem sj_X1_noteEnd_33 (g : zG) (l : Launch) : zSm g l cX1_noteEnd 3 RX1 "noteEnd" none 0 0 zrV 33 [] [] (jn_X1_noteEnd_33) := by
  unfold jn_X1_noteEnd_33
  exact z_vret (by decide +kernel)
def dn_X1_noteEnd (v0 : Nat) (v1 : Nat) (v2 : Int32) : zAH → Option (Unit × zAH) := fun h => (zgO 1 v0 h).bind fun _ => (zgA 1 6 v0 h).bind fun x1 => (zaI 0 x1 v2 h).bind fun x2 => (zgI 0 0 v1 h).bind fun x3 => if x2 < x3 then jn_X1_noteEnd_33 h else (zgA 1 9 v0 h).bind fun x4 => (zgI 1 1 v0 h).bind fun x5 => (zaS 0 x4 v2 x5 h).bind fun h6 => (zgI 1 2 v0 h6).bind fun x7 => (zpF 1 2 v0 (.int (x7 + 1)) h6).bind fun h8 => jn_X1_noteEnd_33 h8
theorem ct_X1_noteEnd (g : zG) (l : Launch) (v0 : Nat) (v1 : Nat) (v2 : Int32) : zCt g l yX1_noteEnd cX1_noteEnd 3 none 0 0 zrV [.ref v0, .ref v1, .int v2] (dn_X1_noteEnd v0 v1 v2) := by
  refine zCt_of (lv := [(0, .ref v0), (1, .ref v1), (2, .int v2)]) (by decide +kernel) (Nat.le_of_ble_eq_true rfl) rfl ?_
  show zSm g l cX1_noteEnd 3 RX1 "noteEnd" none 0 0 zrV 0 [(0, .ref v0), (1, .ref v1), (2, .int v2)] [] (dn_X1_noteEnd v0 v1 v2)
  unfold dn_X1_noteEnd
  refine z_rec ?_
  refine z_aload_n (j := 0) (q := 1) (by decide +kernel) rfl 0 rfl ?_
  refine z_getA (q := 4) zf_RX1_31 (by decide +kernel) rfl fun x1 => ?_
  refine z_iload_n (j := 2) (q := 5) (by decide +kernel) rfl 2 rfl ?_
  refine z_iald (q := 6) (Or.inl ⟨rfl, rfl⟩) (by decide +kernel) rfl fun x2 => ?_
  refine z_aload_n (j := 1) (q := 7) (by decide +kernel) rfl 1 rfl ?_
  refine z_getI (q := 10) zf_RX1_53 (by decide +kernel) rfl fun x3 => ?_
  refine z_icmp_lt (off := 23) (t := 33) (q := 13) (by decide +kernel) (by decide) rfl ?_ ?_
  · refine zsub [] rfl ?_
    exact sj_X1_noteEnd_33 g l 
  · refine z_aload_n (j := 0) (q := 14) (by decide +kernel) rfl 0 rfl ?_
    refine z_getA (q := 17) zf_RX1_41 (by decide +kernel) rfl fun x4 => ?_
    refine z_iload_n (j := 2) (q := 18) (by decide +kernel) rfl 2 rfl ?_
    refine z_aload_n (j := 0) (q := 19) (by decide +kernel) rfl 0 rfl ?_
    refine z_getI (q := 22) zf_RX1_15 (by decide +kernel) rfl fun x5 => ?_
    refine z_iast (q := 23) (Or.inl ⟨rfl, rfl, rfl⟩) (by decide +kernel) rfl ?_
    refine z_aload_n (j := 0) (q := 24) (by decide +kernel) rfl 0 rfl ?_
    refine z_dup (q := 25) (by decide +kernel) rfl rfl ?_
    refine z_getI (q := 28) zf_RX1_18 (by decide +kernel) rfl fun x7 => ?_
    refine z_iconst (n := 1) (v := 1) (q := 29) (by decide +kernel) rfl (by decide) ?_
    refine z_iadd (q := 30) (by decide +kernel) rfl ?_
    refine z_putV (q := 33) zp_RX1_18 (fun z => by cases z) rfl rfl (by decide +kernel) rfl ?_
    refine zsub [] rfl ?_
    exact sj_X1_noteEnd_33 g l 
theorem rc_X1_noteEnd (v0 : Nat) (v1 : Nat) (v2 : Int32) : ∀ h x, dn_X1_noteEnd v0 v1 v2 h = some x → ∃ fs, zgO 1 v0 h = some fs := fun h x hd => by
  obtain ⟨fs, e, -⟩ := Option.bind_eq_some_iff.mp hd
  exact ⟨fs, e⟩
def jn_X1_setOff_118 : zAH → Option (Unit × zAH) := fun h => some ((), h)
theorem sj_X1_setOff_118 (g : zG) (l : Launch) : zSm g l cX1_setOff 5 RX1 "setOff" none 1 22 zrV 118 [] [] (jn_X1_setOff_118) := by
  unfold jn_X1_setOff_118
  exact z_vret (by decide +kernel)
def lb_X1_setOff_31 (v0 : Nat) (v1 : Nat) (v2 : Nat) (v3 : Nat) (rec : (Int32) → zAH → Option (Unit × zAH)) (s : Int32) : zAH → Option (Unit × zAH) := fun h => (zgI 1 0 v0 h).bind fun x1 => if s < x1 then (zgA 1 6 v0 h).bind fun x2 => (zaI 0 v2 s h).bind fun x3 => (zgI 0 0 v1 h).bind fun x4 => (zaS 0 x2 s (zmn x3 x4) h).bind fun h5 => (zgA 1 7 v0 h5).bind fun x6 => (zaI 0 v3 s h5).bind fun x7 => (zaS 0 x6 s x7 h5).bind fun h8 => (zgA 1 8 v0 h8).bind fun x9 => (zaI 0 v3 s h8).bind fun x10 => (zaS 0 x9 s x10 h8).bind fun h11 => (zgA 1 9 v0 h11).bind fun x12 => (zaS 0 x12 s ((-9)) h11).bind fun h13 => (zgA 1 10 v0 h13).bind fun x14 => (zaS 0 x14 s 0 h13).bind fun h15 => (zgA 1 11 v0 h15).bind fun x16 => (zaS 0 x16 s 0 h15).bind fun h17 => zbd (dn_X1_noteEnd v0 v1 s h17) fun x18 h19 => rec (s + 1) h19 else jn_X1_setOff_118 h
def lp_X1_setOff_31 (v0 : Nat) (v1 : Nat) (v2 : Nat) (v3 : Nat) (s : Int32) : zAH → Option (Unit × zAH) := zlp (lb_X1_setOff_31 v0 v1 v2 v3) 2000 s
theorem sl_X1_setOff_31 (g : zG) (l : Launch) (v0 : Nat) (v1 : Nat) (v2 : Nat) (v3 : Nat) (s : Int32) : zSm g l cX1_setOff 5 RX1 "setOff" none 1 22 zrV 31 [(0, .ref v0), (1, .ref v1), (2, .ref v2), (3, .ref v3), (4, .int s)] [] (lp_X1_setOff_31 v0 v1 v2 v3 s) := by
  unfold lp_X1_setOff_31
  refine z_loop (lvf := fun s => [(0, .ref v0), (1, .ref v1), (2, .ref v2), (3, .ref v3), (4, .int s)]) (fun rec hrec s => ?_) 2000 s
  unfold lb_X1_setOff_31
  refine z_iload (j := 4) (q := 33) (by decide +kernel) rfl 4 rfl ?_
  refine z_aload_n (j := 0) (q := 34) (by decide +kernel) rfl 0 rfl ?_
  refine z_getI (q := 37) zf_RX1_9 (by decide +kernel) rfl fun x1 => ?_
  refine z_icmp_ge (off := 81) (t := 118) (q := 40) (by decide +kernel) (by decide) rfl ?_ ?_
  · refine zsub [] rfl ?_
    exact sj_X1_setOff_118 g l 
  · refine z_aload_n (j := 0) (q := 41) (by decide +kernel) rfl 0 rfl ?_
    refine z_getA (q := 44) zf_RX1_31 (by decide +kernel) rfl fun x2 => ?_
    refine z_iload (j := 4) (q := 46) (by decide +kernel) rfl 4 rfl ?_
    refine z_aload_n (j := 2) (q := 47) (by decide +kernel) rfl 2 rfl ?_
    refine z_iload (j := 4) (q := 49) (by decide +kernel) rfl 4 rfl ?_
    refine z_iald (q := 50) (Or.inl ⟨rfl, rfl⟩) (by decide +kernel) rfl fun x3 => ?_
    refine z_aload_n (j := 1) (q := 51) (by decide +kernel) rfl 1 rfl ?_
    refine z_getI (q := 54) zf_RX1_53 (by decide +kernel) rfl fun x4 => ?_
    refine z_mmin (st := [.int s, .ref x2]) (q := 57) zw413 zw414 zw81 zw415 (by decide) (by decide) (Nat.le_of_ble_eq_true rfl) (by decide +kernel) rfl ?_
    refine z_iast (q := 58) (Or.inl ⟨rfl, rfl, rfl⟩) (by decide +kernel) rfl ?_
    refine z_aload_n (j := 0) (q := 59) (by decide +kernel) rfl 0 rfl ?_
    refine z_getA (q := 62) zf_RX1_35 (by decide +kernel) rfl fun x6 => ?_
    refine z_iload (j := 4) (q := 64) (by decide +kernel) rfl 4 rfl ?_
    refine z_aload_n (j := 3) (q := 65) (by decide +kernel) rfl 3 rfl ?_
    refine z_iload (j := 4) (q := 67) (by decide +kernel) rfl 4 rfl ?_
    refine z_iald (q := 68) (Or.inl ⟨rfl, rfl⟩) (by decide +kernel) rfl fun x7 => ?_
    refine z_iast (q := 69) (Or.inl ⟨rfl, rfl, rfl⟩) (by decide +kernel) rfl ?_
    refine z_aload_n (j := 0) (q := 70) (by decide +kernel) rfl 0 rfl ?_
    refine z_getA (q := 73) zf_RX1_38 (by decide +kernel) rfl fun x9 => ?_
    refine z_iload (j := 4) (q := 75) (by decide +kernel) rfl 4 rfl ?_
    refine z_aload_n (j := 3) (q := 76) (by decide +kernel) rfl 3 rfl ?_
    refine z_iload (j := 4) (q := 78) (by decide +kernel) rfl 4 rfl ?_
    refine z_iald (q := 79) (Or.inl ⟨rfl, rfl⟩) (by decide +kernel) rfl fun x10 => ?_
    refine z_iast (q := 80) (Or.inl ⟨rfl, rfl, rfl⟩) (by decide +kernel) rfl ?_
    refine z_aload_n (j := 0) (q := 81) (by decide +kernel) rfl 0 rfl ?_
    refine z_getA (q := 84) zf_RX1_41 (by decide +kernel) rfl fun x12 => ?_
    refine z_iload (j := 4) (q := 86) (by decide +kernel) rfl 4 rfl ?_
    refine z_bipush (n := (-9)) (v := (-9)) (q := 88) (by decide +kernel) rfl (by decide) ?_
    refine z_iast (q := 89) (Or.inl ⟨rfl, rfl, rfl⟩) (by decide +kernel) rfl ?_
    refine z_aload_n (j := 0) (q := 90) (by decide +kernel) rfl 0 rfl ?_
    refine z_getA (q := 93) zf_RX1_44 (by decide +kernel) rfl fun x14 => ?_
    refine z_iload (j := 4) (q := 95) (by decide +kernel) rfl 4 rfl ?_
    refine z_iconst (n := 0) (v := 0) (q := 96) (by decide +kernel) rfl (by decide) ?_
    refine z_iast (q := 97) (Or.inl ⟨rfl, rfl, rfl⟩) (by decide +kernel) rfl ?_
    refine z_aload_n (j := 0) (q := 98) (by decide +kernel) rfl 0 rfl ?_
    refine z_getA (q := 101) zf_RX1_47 (by decide +kernel) rfl fun x16 => ?_
    refine z_iload (j := 4) (q := 103) (by decide +kernel) rfl 4 rfl ?_
    refine z_iconst (n := 0) (v := 0) (q := 104) (by decide +kernel) rfl (by decide) ?_
    refine z_iast (q := 105) (Or.inl ⟨rfl, rfl, rfl⟩) (by decide +kernel) rfl ?_
    refine z_aload_n (j := 0) (q := 106) (by decide +kernel) rfl 0 rfl ?_
    refine z_aload_n (j := 1) (q := 107) (by decide +kernel) rfl 1 rfl ?_
    refine z_iload (j := 4) (q := 109) (by decide +kernel) rfl 4 rfl ?_
    refine z_callVU (As := [.ref v1, .int s]) (st := []) (q := 112) (ct_X1_noteEnd g l v0 v1 s) zm_RX1_62 (rc_X1_noteEnd v0 v1 s) rfl (by decide) (by decide) (Nat.le_of_ble_eq_true rfl) rfl (by decide +kernel) rfl fun x18 => ?_
    refine z_iinc (j := 4) (n := 1) (v := 1) (q := 115) (by decide +kernel) rfl 4 rfl (by decide) (by decide) rfl ?_
    refine z_goto (off := (-84)) (t := 31) (by decide +kernel) (by decide) ?_
    refine zsub [1, 2, 3, 4, 0] rfl ?_
    exact hrec (s + 1)
def dn_X1_setOff (v0 : Nat) (v1 : Nat) (v2 : Nat) (v3 : Nat) : zAH → Option (Unit × zAH) := fun h => (zgO 1 v0 h).bind fun _ => (zgI 0 2 v1 h).bind fun x1 => (zpF 1 0 v0 (.int x1) h).bind fun h2 => (zpF 1 1 v0 (.int 0) h2).bind fun h3 => (zpF 1 2 v0 (.int 0) h3).bind fun h4 => (zpF 1 3 v0 (.int 0) h4).bind fun h5 => (zpF 1 4 v0 (.int 0) h5).bind fun h6 => lp_X1_setOff_31 v0 v1 v2 v3 0 h6
theorem ct_X1_setOff (g : zG) (l : Launch) (v0 : Nat) (v1 : Nat) (v2 : Nat) (v3 : Nat) : zCt g l yX1_setOff cX1_setOff 5 none 1 22 zrV [.ref v0, .ref v1, .ref v2, .ref v3] (dn_X1_setOff v0 v1 v2 v3) := by
  refine zCt_of (lv := [(0, .ref v0), (1, .ref v1), (2, .ref v2), (3, .ref v3)]) (by decide +kernel) (Nat.le_of_ble_eq_true rfl) rfl ?_
  show zSm g l cX1_setOff 5 RX1 "setOff" none 1 22 zrV 0 [(0, .ref v0), (1, .ref v1), (2, .ref v2), (3, .ref v3)] [] (dn_X1_setOff v0 v1 v2 v3)
  unfold dn_X1_setOff
  refine z_rec ?_
  refine z_aload_n (j := 0) (q := 1) (by decide +kernel) rfl 0 rfl ?_
  refine z_aload_n (j := 1) (q := 2) (by decide +kernel) rfl 1 rfl ?_
  refine z_getI (q := 5) zf_RX1_50 (by decide +kernel) rfl fun x1 => ?_
  refine z_putV (q := 8) zp_RX1_9 (fun z => by cases z) rfl rfl (by decide +kernel) rfl ?_
  refine z_aload_n (j := 0) (q := 9) (by decide +kernel) rfl 0 rfl ?_
  refine z_iconst (n := 0) (v := 0) (q := 10) (by decide +kernel) rfl (by decide) ?_
  refine z_putV (q := 13) zp_RX1_15 (fun z => by cases z) rfl rfl (by decide +kernel) rfl ?_
  refine z_aload_n (j := 0) (q := 14) (by decide +kernel) rfl 0 rfl ?_
  refine z_iconst (n := 0) (v := 0) (q := 15) (by decide +kernel) rfl (by decide) ?_
  refine z_putV (q := 18) zp_RX1_18 (fun z => by cases z) rfl rfl (by decide +kernel) rfl ?_
  refine z_aload_n (j := 0) (q := 19) (by decide +kernel) rfl 0 rfl ?_
  refine z_iconst (n := 0) (v := 0) (q := 20) (by decide +kernel) rfl (by decide) ?_
  refine z_putV (q := 23) zp_RX1_21 (fun z => by cases z) rfl rfl (by decide +kernel) rfl ?_
  refine z_aload_n (j := 0) (q := 24) (by decide +kernel) rfl 0 rfl ?_
  refine z_iconst (n := 0) (v := 0) (q := 25) (by decide +kernel) rfl (by decide) ?_
  refine z_putV (q := 28) zp_RX1_24 (fun z => by cases z) rfl rfl (by decide +kernel) rfl ?_
  refine z_iconst (n := 0) (v := 0) (q := 29) (by decide +kernel) rfl (by decide) ?_
  refine z_istore (j := 4) (q := 31) (by decide +kernel) rfl (by decide) rfl ?_
  refine zsub [1, 2, 3, 4, 0] rfl ?_
  exact sl_X1_setOff_31 g l v0 v1 v2 v3 0
theorem rc_X1_setOff (v0 : Nat) (v1 : Nat) (v2 : Nat) (v3 : Nat) : ∀ h x, dn_X1_setOff v0 v1 v2 v3 h = some x → ∃ fs, zgO 1 v0 h = some fs := fun h x hd => by
  obtain ⟨fs, e, -⟩ := Option.bind_eq_some_iff.mp hd
  exact ⟨fs, e⟩
def jn_X1_becomeLike_128 : zAH → Option (Unit × zAH) := fun h => some ((), h)
theorem sj_X1_becomeLike_128 (g : zG) (l : Launch) : zSm g l cX1_becomeLike 3 RX1 "becomeLike" none 0 0 zrV 128 [] [] (jn_X1_becomeLike_128) := by
  unfold jn_X1_becomeLike_128
  exact z_vret (by decide +kernel)
def lb_X1_becomeLike_42 (v0 : Nat) (v1 : Nat) (rec : (Int32) → zAH → Option (Unit × zAH)) (s : Int32) : zAH → Option (Unit × zAH) := fun h => (zgI 1 0 v0 h).bind fun x1 => if s < x1 then (zgA 1 6 v0 h).bind fun x2 => (zgA 1 6 v1 h).bind fun x3 => (zaI 0 x3 s h).bind fun x4 => (zaS 0 x2 s x4 h).bind fun h5 => (zgA 1 7 v0 h5).bind fun x6 => (zgA 1 7 v1 h5).bind fun x7 => (zaI 0 x7 s h5).bind fun x8 => (zaS 0 x6 s x8 h5).bind fun h9 => (zgA 1 8 v0 h9).bind fun x10 => (zgA 1 8 v1 h9).bind fun x11 => (zaI 0 x11 s h9).bind fun x12 => (zaS 0 x10 s x12 h9).bind fun h13 => (zgA 1 9 v0 h13).bind fun x14 => (zgA 1 9 v1 h13).bind fun x15 => (zaI 0 x15 s h13).bind fun x16 => (zaS 0 x14 s x16 h13).bind fun h17 => (zgA 1 10 v0 h17).bind fun x18 => (zgA 1 10 v1 h17).bind fun x19 => (zaI 0 x19 s h17).bind fun x20 => (zaS 0 x18 s x20 h17).bind fun h21 => (zgA 1 11 v0 h21).bind fun x22 => (zgA 1 11 v1 h21).bind fun x23 => (zaI 0 x23 s h21).bind fun x24 => (zaS 0 x22 s x24 h21).bind fun h25 => rec (s + 1) h25 else jn_X1_becomeLike_128 h
def lp_X1_becomeLike_42 (v0 : Nat) (v1 : Nat) (s : Int32) : zAH → Option (Unit × zAH) := zlp (lb_X1_becomeLike_42 v0 v1) 2000 s
theorem sl_X1_becomeLike_42 (g : zG) (l : Launch) (v0 : Nat) (v1 : Nat) (s : Int32) : zSm g l cX1_becomeLike 3 RX1 "becomeLike" none 0 0 zrV 42 [(0, .ref v0), (1, .ref v1), (2, .int s)] [] (lp_X1_becomeLike_42 v0 v1 s) := by
  unfold lp_X1_becomeLike_42
  refine z_loop (lvf := fun s => [(0, .ref v0), (1, .ref v1), (2, .int s)]) (fun rec hrec s => ?_) 2000 s
  unfold lb_X1_becomeLike_42
  refine z_iload_n (j := 2) (q := 43) (by decide +kernel) rfl 2 rfl ?_
  refine z_aload_n (j := 0) (q := 44) (by decide +kernel) rfl 0 rfl ?_
  refine z_getI (q := 47) zf_RX1_9 (by decide +kernel) rfl fun x1 => ?_
  refine z_icmp_ge (off := 81) (t := 128) (q := 50) (by decide +kernel) (by decide) rfl ?_ ?_
  · refine zsub [] rfl ?_
    exact sj_X1_becomeLike_128 g l 
  · refine z_aload_n (j := 0) (q := 51) (by decide +kernel) rfl 0 rfl ?_
    refine z_getA (q := 54) zf_RX1_31 (by decide +kernel) rfl fun x2 => ?_
    refine z_iload_n (j := 2) (q := 55) (by decide +kernel) rfl 2 rfl ?_
    refine z_aload_n (j := 1) (q := 56) (by decide +kernel) rfl 1 rfl ?_
    refine z_getA (q := 59) zf_RX1_31 (by decide +kernel) rfl fun x3 => ?_
    refine z_iload_n (j := 2) (q := 60) (by decide +kernel) rfl 2 rfl ?_
    refine z_iald (q := 61) (Or.inl ⟨rfl, rfl⟩) (by decide +kernel) rfl fun x4 => ?_
    refine z_iast (q := 62) (Or.inl ⟨rfl, rfl, rfl⟩) (by decide +kernel) rfl ?_
    refine z_aload_n (j := 0) (q := 63) (by decide +kernel) rfl 0 rfl ?_
    refine z_getA (q := 66) zf_RX1_35 (by decide +kernel) rfl fun x6 => ?_
    refine z_iload_n (j := 2) (q := 67) (by decide +kernel) rfl 2 rfl ?_
    refine z_aload_n (j := 1) (q := 68) (by decide +kernel) rfl 1 rfl ?_
    refine z_getA (q := 71) zf_RX1_35 (by decide +kernel) rfl fun x7 => ?_
    refine z_iload_n (j := 2) (q := 72) (by decide +kernel) rfl 2 rfl ?_
    refine z_iald (q := 73) (Or.inl ⟨rfl, rfl⟩) (by decide +kernel) rfl fun x8 => ?_
    refine z_iast (q := 74) (Or.inl ⟨rfl, rfl, rfl⟩) (by decide +kernel) rfl ?_
    refine z_aload_n (j := 0) (q := 75) (by decide +kernel) rfl 0 rfl ?_
    refine z_getA (q := 78) zf_RX1_38 (by decide +kernel) rfl fun x10 => ?_
    refine z_iload_n (j := 2) (q := 79) (by decide +kernel) rfl 2 rfl ?_
    refine z_aload_n (j := 1) (q := 80) (by decide +kernel) rfl 1 rfl ?_
    refine z_getA (q := 83) zf_RX1_38 (by decide +kernel) rfl fun x11 => ?_
    refine z_iload_n (j := 2) (q := 84) (by decide +kernel) rfl 2 rfl ?_
    refine z_iald (q := 85) (Or.inl ⟨rfl, rfl⟩) (by decide +kernel) rfl fun x12 => ?_
    refine z_iast (q := 86) (Or.inl ⟨rfl, rfl, rfl⟩) (by decide +kernel) rfl ?_
    refine z_aload_n (j := 0) (q := 87) (by decide +kernel) rfl 0 rfl ?_
    refine z_getA (q := 90) zf_RX1_41 (by decide +kernel) rfl fun x14 => ?_
    refine z_iload_n (j := 2) (q := 91) (by decide +kernel) rfl 2 rfl ?_
    refine z_aload_n (j := 1) (q := 92) (by decide +kernel) rfl 1 rfl ?_
    refine z_getA (q := 95) zf_RX1_41 (by decide +kernel) rfl fun x15 => ?_
    refine z_iload_n (j := 2) (q := 96) (by decide +kernel) rfl 2 rfl ?_
    refine z_iald (q := 97) (Or.inl ⟨rfl, rfl⟩) (by decide +kernel) rfl fun x16 => ?_
    refine z_iast (q := 98) (Or.inl ⟨rfl, rfl, rfl⟩) (by decide +kernel) rfl ?_
    refine z_aload_n (j := 0) (q := 99) (by decide +kernel) rfl 0 rfl ?_
    refine z_getA (q := 102) zf_RX1_44 (by decide +kernel) rfl fun x18 => ?_
    refine z_iload_n (j := 2) (q := 103) (by decide +kernel) rfl 2 rfl ?_
    refine z_aload_n (j := 1) (q := 104) (by decide +kernel) rfl 1 rfl ?_
    refine z_getA (q := 107) zf_RX1_44 (by decide +kernel) rfl fun x19 => ?_
    refine z_iload_n (j := 2) (q := 108) (by decide +kernel) rfl 2 rfl ?_
    refine z_iald (q := 109) (Or.inl ⟨rfl, rfl⟩) (by decide +kernel) rfl fun x20 => ?_
    refine z_iast (q := 110) (Or.inl ⟨rfl, rfl, rfl⟩) (by decide +kernel) rfl ?_
    refine z_aload_n (j := 0) (q := 111) (by decide +kernel) rfl 0 rfl ?_
    refine z_getA (q := 114) zf_RX1_47 (by decide +kernel) rfl fun x22 => ?_
    refine z_iload_n (j := 2) (q := 115) (by decide +kernel) rfl 2 rfl ?_
    refine z_aload_n (j := 1) (q := 116) (by decide +kernel) rfl 1 rfl ?_
    refine z_getA (q := 119) zf_RX1_47 (by decide +kernel) rfl fun x23 => ?_
    refine z_iload_n (j := 2) (q := 120) (by decide +kernel) rfl 2 rfl ?_
    refine z_iald (q := 121) (Or.inl ⟨rfl, rfl⟩) (by decide +kernel) rfl fun x24 => ?_
    refine z_iast (q := 122) (Or.inl ⟨rfl, rfl, rfl⟩) (by decide +kernel) rfl ?_
    refine z_iinc (j := 2) (n := 1) (v := 1) (q := 125) (by decide +kernel) rfl 2 rfl (by decide) (by decide) rfl ?_
    refine z_goto (off := (-83)) (t := 42) (by decide +kernel) (by decide) ?_
    refine zsub [1, 2, 0] rfl ?_
    exact hrec (s + 1)
def dn_X1_becomeLike (v0 : Nat) (v1 : Nat) : zAH → Option (Unit × zAH) := fun h => (zgO 1 v0 h).bind fun _ => (zgI 1 0 v1 h).bind fun x1 => (zpF 1 0 v0 (.int x1) h).bind fun h2 => (zgI 1 1 v1 h2).bind fun x3 => (zpF 1 1 v0 (.int x3) h2).bind fun h4 => (zgI 1 2 v1 h4).bind fun x5 => (zpF 1 2 v0 (.int x5) h4).bind fun h6 => (zgI 1 3 v1 h6).bind fun x7 => (zpF 1 3 v0 (.int x7) h6).bind fun h8 => (zgI 1 4 v1 h8).bind fun x9 => (zpF 1 4 v0 (.int x9) h8).bind fun h10 => lp_X1_becomeLike_42 v0 v1 0 h10
theorem ct_X1_becomeLike (g : zG) (l : Launch) (v0 : Nat) (v1 : Nat) : zCt g l yX1_becomeLike cX1_becomeLike 3 none 0 0 zrV [.ref v0, .ref v1] (dn_X1_becomeLike v0 v1) := by
  refine zCt_of (lv := [(0, .ref v0), (1, .ref v1)]) (by decide +kernel) (Nat.le_of_ble_eq_true rfl) rfl ?_
  show zSm g l cX1_becomeLike 3 RX1 "becomeLike" none 0 0 zrV 0 [(0, .ref v0), (1, .ref v1)] [] (dn_X1_becomeLike v0 v1)
  unfold dn_X1_becomeLike
  refine z_rec ?_
  refine z_aload_n (j := 0) (q := 1) (by decide +kernel) rfl 0 rfl ?_
  refine z_aload_n (j := 1) (q := 2) (by decide +kernel) rfl 1 rfl ?_
  refine z_getI (q := 5) zf_RX1_9 (by decide +kernel) rfl fun x1 => ?_
  refine z_putV (q := 8) zp_RX1_9 (fun z => by cases z) rfl rfl (by decide +kernel) rfl ?_
  refine z_aload_n (j := 0) (q := 9) (by decide +kernel) rfl 0 rfl ?_
  refine z_aload_n (j := 1) (q := 10) (by decide +kernel) rfl 1 rfl ?_
  refine z_getI (q := 13) zf_RX1_15 (by decide +kernel) rfl fun x3 => ?_
  refine z_putV (q := 16) zp_RX1_15 (fun z => by cases z) rfl rfl (by decide +kernel) rfl ?_
  refine z_aload_n (j := 0) (q := 17) (by decide +kernel) rfl 0 rfl ?_
  refine z_aload_n (j := 1) (q := 18) (by decide +kernel) rfl 1 rfl ?_
  refine z_getI (q := 21) zf_RX1_18 (by decide +kernel) rfl fun x5 => ?_
  refine z_putV (q := 24) zp_RX1_18 (fun z => by cases z) rfl rfl (by decide +kernel) rfl ?_
  refine z_aload_n (j := 0) (q := 25) (by decide +kernel) rfl 0 rfl ?_
  refine z_aload_n (j := 1) (q := 26) (by decide +kernel) rfl 1 rfl ?_
  refine z_getI (q := 29) zf_RX1_21 (by decide +kernel) rfl fun x7 => ?_
  refine z_putV (q := 32) zp_RX1_21 (fun z => by cases z) rfl rfl (by decide +kernel) rfl ?_
  refine z_aload_n (j := 0) (q := 33) (by decide +kernel) rfl 0 rfl ?_
  refine z_aload_n (j := 1) (q := 34) (by decide +kernel) rfl 1 rfl ?_
  refine z_getI (q := 37) zf_RX1_24 (by decide +kernel) rfl fun x9 => ?_
  refine z_putV (q := 40) zp_RX1_24 (fun z => by cases z) rfl rfl (by decide +kernel) rfl ?_
  refine z_iconst (n := 0) (v := 0) (q := 41) (by decide +kernel) rfl (by decide) ?_
  refine z_istore_n (j := 2) (q := 42) (by decide +kernel) rfl (by decide) rfl ?_
  refine zsub [1, 2, 0] rfl ?_
  exact sl_X1_becomeLike_42 g l v0 v1 0
theorem rc_X1_becomeLike (v0 : Nat) (v1 : Nat) : ∀ h x, dn_X1_becomeLike v0 v1 h = some x → ∃ fs, zgO 1 v0 h = some fs := fun h x hd => by
  obtain ⟨fs, e, -⟩ := Option.bind_eq_some_iff.mp hd
  exact ⟨fs, e⟩
def jn_X1_isOver_25 (w0 : Int32) : zAH → Option (Int32 × zAH) := fun h => if w0 = 0 ∨ w0 = 1 then some (w0, h) else none
theorem sj_X1_isOver_25 (g : zG) (l : Launch) (w0 : Int32) : zSm g l cX1_isOver 1 RX1 "isOver" (some .boolean) 0 0 zrI 25 [] [.int w0] (jn_X1_isOver_25 w0) := by
  unfold jn_X1_isOver_25
  exact z_zret (by decide +kernel)
def jn_X1_isOver_20 : zAH → Option (Int32 × zAH) := fun h => jn_X1_isOver_25 1 h
theorem sj_X1_isOver_20 (g : zG) (l : Launch) : zSm g l cX1_isOver 1 RX1 "isOver" (some .boolean) 0 0 zrI 20 [] [] (jn_X1_isOver_20) := by
  unfold jn_X1_isOver_20
  refine z_iconst (n := 1) (v := 1) (q := 21) (by decide +kernel) rfl (by decide) ?_
  refine z_goto (off := 4) (t := 25) (by decide +kernel) (by decide) ?_
  refine zsub [] rfl ?_
  exact sj_X1_isOver_25 g l 1
def dn_X1_isOver (v0 : Nat) : zAH → Option (Int32 × zAH) := fun h => (zgO 1 v0 h).bind fun _ => (zgI 1 2 v0 h).bind fun x1 => (zgI 1 0 v0 h).bind fun x2 => if x1 < x2 then (zgI 1 1 v0 h).bind fun x3 => if x3 < 60 then jn_X1_isOver_25 0 h else jn_X1_isOver_20 h else jn_X1_isOver_20 h
theorem ct_X1_isOver (g : zG) (l : Launch) (v0 : Nat) : zCt g l yX1_isOver cX1_isOver 1 (some .boolean) 0 0 zrI [.ref v0] (dn_X1_isOver v0) := by
  refine zCt_of (lv := [(0, .ref v0)]) (by decide +kernel) (Nat.le_of_ble_eq_true rfl) rfl ?_
  show zSm g l cX1_isOver 1 RX1 "isOver" (some .boolean) 0 0 zrI 0 [(0, .ref v0)] [] (dn_X1_isOver v0)
  unfold dn_X1_isOver
  refine z_rec ?_
  refine z_aload_n (j := 0) (q := 1) (by decide +kernel) rfl 0 rfl ?_
  refine z_getI (q := 4) zf_RX1_18 (by decide +kernel) rfl fun x1 => ?_
  refine z_aload_n (j := 0) (q := 5) (by decide +kernel) rfl 0 rfl ?_
  refine z_getI (q := 8) zf_RX1_9 (by decide +kernel) rfl fun x2 => ?_
  refine z_icmp_ge (off := 12) (t := 20) (q := 11) (by decide +kernel) (by decide) rfl ?_ ?_
  · refine zsub [] rfl ?_
    exact sj_X1_isOver_20 g l 
  · refine z_aload_n (j := 0) (q := 12) (by decide +kernel) rfl 0 rfl ?_
    refine z_getI (q := 15) zf_RX1_15 (by decide +kernel) rfl fun x3 => ?_
    refine z_bipush (n := 60) (v := 60) (q := 17) (by decide +kernel) rfl (by decide) ?_
    refine z_icmp_lt (off := 7) (t := 24) (q := 20) (by decide +kernel) (by decide) rfl ?_ ?_
    · refine z_iconst (n := 0) (v := 0) (q := 25) (by decide +kernel) rfl (by decide) ?_
      refine zsub [] rfl ?_
      exact sj_X1_isOver_25 g l 0
    · refine zsub [] rfl ?_
      exact sj_X1_isOver_20 g l 
theorem rc_X1_isOver (v0 : Nat) : ∀ h x, dn_X1_isOver v0 h = some x → ∃ fs, zgO 1 v0 h = some fs := fun h x hd => by
  obtain ⟨fs, e, -⟩ := Option.bind_eq_some_iff.mp hd
  exact ⟨fs, e⟩
def jn_X1_isDone_16 (w0 : Int32) : zAH → Option (Int32 × zAH) := fun h => if w0 = 0 ∨ w0 = 1 then some (w0, h) else none
theorem sj_X1_isDone_16 (g : zG) (l : Launch) (w0 : Int32) : zSm g l cX1_isDone 2 RX1 "isDone" (some .boolean) 0 0 zrI 16 [] [.int w0] (jn_X1_isDone_16 w0) := by
  unfold jn_X1_isDone_16
  exact z_zret (by decide +kernel)
def dn_X1_isDone (v0 : Nat) (v1 : Int32) : zAH → Option (Int32 × zAH) := fun h => (zgO 1 v0 h).bind fun _ => (zgA 1 9 v0 h).bind fun x1 => (zaI 0 x1 v1 h).bind fun x2 => if x2 = ((-9)) then jn_X1_isDone_16 0 h else jn_X1_isDone_16 1 h
theorem ct_X1_isDone (g : zG) (l : Launch) (v0 : Nat) (v1 : Int32) : zCt g l yX1_isDone cX1_isDone 2 (some .boolean) 0 0 zrI [.ref v0, .int v1] (dn_X1_isDone v0 v1) := by
  refine zCt_of (lv := [(0, .ref v0), (1, .int v1)]) (by decide +kernel) (Nat.le_of_ble_eq_true rfl) rfl ?_
  show zSm g l cX1_isDone 2 RX1 "isDone" (some .boolean) 0 0 zrI 0 [(0, .ref v0), (1, .int v1)] [] (dn_X1_isDone v0 v1)
  unfold dn_X1_isDone
  refine z_rec ?_
  refine z_aload_n (j := 0) (q := 1) (by decide +kernel) rfl 0 rfl ?_
  refine z_getA (q := 4) zf_RX1_41 (by decide +kernel) rfl fun x1 => ?_
  refine z_iload_n (j := 1) (q := 5) (by decide +kernel) rfl 1 rfl ?_
  refine z_iald (q := 6) (Or.inl ⟨rfl, rfl⟩) (by decide +kernel) rfl fun x2 => ?_
  refine z_bipush (n := (-9)) (v := (-9)) (q := 8) (by decide +kernel) rfl (by decide) ?_
  refine z_icmp_eq (off := 7) (t := 15) (q := 11) (by decide +kernel) (by decide) rfl ?_ ?_
  · refine z_iconst (n := 0) (v := 0) (q := 16) (by decide +kernel) rfl (by decide) ?_
    refine zsub [] rfl ?_
    exact sj_X1_isDone_16 g l 0
  · refine z_iconst (n := 1) (v := 1) (q := 12) (by decide +kernel) rfl (by decide) ?_
    refine z_goto (off := 4) (t := 16) (by decide +kernel) (by decide) ?_
    refine zsub [] rfl ?_
    exact sj_X1_isDone_16 g l 1
theorem rc_X1_isDone (v0 : Nat) (v1 : Int32) : ∀ h x, dn_X1_isDone v0 v1 h = some x → ∃ fs, zgO 1 v0 h = some fs := fun h x hd => by
  obtain ⟨fs, e, -⟩ := Option.bind_eq_some_iff.mp hd
  exact ⟨fs, e⟩
def jn_X1_breathAfter_25 (w0 : Int32) (w1 : Int32) : zAH → Option (Int32 × zAH) := fun h => some (w0 + w1, h)
theorem sj_X1_breathAfter_25 (g : zG) (l : Launch) (w0 : Int32) (w1 : Int32) : zSm g l cX1_breathAfter 6 RX1 "breathAfter" (some .int) 1 21 zrI 25 [] [.int w1, .int w0] (jn_X1_breathAfter_25 w0 w1) := by
  unfold jn_X1_breathAfter_25
  refine z_iadd (q := 26) (by decide +kernel) rfl ?_
  exact z_iret (by decide +kernel)
def jn_X1_breathAfter_105 (v5 : Int32) : zAH → Option (Int32 × zAH) := fun h => some (v5, h)
theorem sj_X1_breathAfter_105 (g : zG) (l : Launch) (v5 : Int32) : zSm g l cX1_breathAfter 6 RX1 "breathAfter" (some .int) 1 21 zrI 105 [(5, .int v5)] [] (jn_X1_breathAfter_105 v5) := by
  unfold jn_X1_breathAfter_105
  refine z_iload (j := 5) (q := 107) (by decide +kernel) rfl 0 rfl ?_
  exact z_iret (by decide +kernel)
def jn_X1_breathAfter_86 (v0 : Nat) (v1 : Int32) (v2 : Int32) (v5 : Int32) : zAH → Option (Int32 × zAH) := fun h => (zgI 1 3 v0 h).bind fun x1 => if x1 = v2 then zbd (dn_X0_isOf v1 2 h) fun x2 h3 => if x2 = 0 then jn_X1_breathAfter_105 (v5 + (-1)) h3 else jn_X1_breathAfter_105 v5 h3 else jn_X1_breathAfter_105 v5 h
theorem sj_X1_breathAfter_86 (g : zG) (l : Launch) (v0 : Nat) (v1 : Int32) (v2 : Int32) (v5 : Int32) : zSm g l cX1_breathAfter 6 RX1 "breathAfter" (some .int) 1 21 zrI 86 [(0, .ref v0), (1, .int v1), (2, .int v2), (5, .int v5)] [] (jn_X1_breathAfter_86 v0 v1 v2 v5) := by
  unfold jn_X1_breathAfter_86
  refine z_aload_n (j := 0) (q := 87) (by decide +kernel) rfl 0 rfl ?_
  refine z_getI (q := 90) zf_RX1_21 (by decide +kernel) rfl fun x1 => ?_
  refine z_iload_n (j := 2) (q := 91) (by decide +kernel) rfl 2 rfl ?_
  refine z_icmp_ne (off := 14) (t := 105) (q := 94) (by decide +kernel) (by decide) rfl ?_ ?_
  · refine zsub [3] rfl ?_
    exact sj_X1_breathAfter_105 g l v5
  · refine z_iload_n (j := 1) (q := 95) (by decide +kernel) rfl 1 rfl ?_
    refine z_iconst (n := 2) (v := 2) (q := 96) (by decide +kernel) rfl (by decide) ?_
    refine z_callSI (As := [.int v1, .int 2]) (st := []) (q := 99) (ct_X0_isOf g l v1 2) zm_RX1_103 rfl (by decide) (by decide) (Nat.le_of_ble_eq_true rfl) rfl (by decide +kernel) rfl fun x2 => ?_
    refine z_if_ne (off := 6) (t := 105) (q := 102) (by decide +kernel) (by decide) rfl ?_ ?_
    · refine zsub [3] rfl ?_
      exact sj_X1_breathAfter_105 g l v5
    · refine z_iinc (j := 5) (n := (-1)) (v := (-1)) (q := 105) (by decide +kernel) rfl 3 rfl (by decide) (by decide) rfl ?_
      refine zsub [0] rfl ?_
      exact sj_X1_breathAfter_105 g l (v5 + (-1))
def jn_X1_breathAfter_73 (v0 : Nat) (v1 : Int32) (v2 : Int32) (v3 : Int32) (v4 : Int32) (v5 : Int32) : zAH → Option (Int32 × zAH) := fun h => if v3 < 0 then if 1 < v4 then jn_X1_breathAfter_86 v0 v1 v2 (v5 + 1) h else jn_X1_breathAfter_86 v0 v1 v2 v5 h else jn_X1_breathAfter_86 v0 v1 v2 v5 h
theorem sj_X1_breathAfter_73 (g : zG) (l : Launch) (v0 : Nat) (v1 : Int32) (v2 : Int32) (v3 : Int32) (v4 : Int32) (v5 : Int32) : zSm g l cX1_breathAfter 6 RX1 "breathAfter" (some .int) 1 21 zrI 73 [(0, .ref v0), (1, .int v1), (2, .int v2), (3, .int v3), (4, .int v4), (5, .int v5)] [] (jn_X1_breathAfter_73 v0 v1 v2 v3 v4 v5) := by
  unfold jn_X1_breathAfter_73
  refine z_iload_n (j := 3) (q := 74) (by decide +kernel) rfl 3 rfl ?_
  refine z_if_ge (off := 12) (t := 86) (q := 77) (by decide +kernel) (by decide) rfl ?_ ?_
  · refine zsub [0, 1, 2, 5] rfl ?_
    exact sj_X1_breathAfter_86 g l v0 v1 v2 v5
  · refine z_iload (j := 4) (q := 79) (by decide +kernel) rfl 4 rfl ?_
    refine z_iconst (n := 1) (v := 1) (q := 80) (by decide +kernel) rfl (by decide) ?_
    refine z_icmp_le (off := 6) (t := 86) (q := 83) (by decide +kernel) (by decide) rfl ?_ ?_
    · refine zsub [0, 1, 2, 5] rfl ?_
      exact sj_X1_breathAfter_86 g l v0 v1 v2 v5
    · refine z_iinc (j := 5) (n := 1) (v := 1) (q := 86) (by decide +kernel) rfl 5 rfl (by decide) (by decide) rfl ?_
      refine zsub [1, 2, 3, 0] rfl ?_
      exact sj_X1_breathAfter_86 g l v0 v1 v2 (v5 + 1)
def jn_X1_breathAfter_52 (v0 : Nat) (v1 : Int32) (v2 : Int32) (v3 : Int32) (v4 : Int32) (w0 : Int32) (w1 : Int32) : zAH → Option (Int32 × zAH) := fun h => if 0 < v3 then zbd (dn_X0_isOf v1 1 h) fun x1 h2 => if x1 = 0 then jn_X1_breathAfter_73 v0 v1 v2 v3 v4 ((w0 + w1) - v3) h2 else jn_X1_breathAfter_73 v0 v1 v2 v3 v4 (w0 + w1) h2 else jn_X1_breathAfter_73 v0 v1 v2 v3 v4 (w0 + w1) h
theorem sj_X1_breathAfter_52 (g : zG) (l : Launch) (v0 : Nat) (v1 : Int32) (v2 : Int32) (v3 : Int32) (v4 : Int32) (w0 : Int32) (w1 : Int32) : zSm g l cX1_breathAfter 6 RX1 "breathAfter" (some .int) 1 21 zrI 52 [(0, .ref v0), (1, .int v1), (2, .int v2), (3, .int v3), (4, .int v4)] [.int w1, .int w0] (jn_X1_breathAfter_52 v0 v1 v2 v3 v4 w0 w1) := by
  unfold jn_X1_breathAfter_52
  refine z_iadd (q := 53) (by decide +kernel) rfl ?_
  refine z_istore (j := 5) (q := 55) (by decide +kernel) rfl (by decide) rfl ?_
  refine z_iload_n (j := 3) (q := 56) (by decide +kernel) rfl 4 rfl ?_
  refine z_if_le (off := 17) (t := 73) (q := 59) (by decide +kernel) (by decide) rfl ?_ ?_
  · refine zsub [1, 2, 3, 4, 5, 0] rfl ?_
    exact sj_X1_breathAfter_73 g l v0 v1 v2 v3 v4 (w0 + w1)
  · refine z_iload_n (j := 1) (q := 60) (by decide +kernel) rfl 2 rfl ?_
    refine z_iconst (n := 1) (v := 1) (q := 61) (by decide +kernel) rfl (by decide) ?_
    refine z_callSI (As := [.int v1, .int 1]) (st := []) (q := 64) (ct_X0_isOf g l v1 1) zm_RX1_103 rfl (by decide) (by decide) (Nat.le_of_ble_eq_true rfl) rfl (by decide +kernel) rfl fun x1 => ?_
    refine z_if_ne (off := 9) (t := 73) (q := 67) (by decide +kernel) (by decide) rfl ?_ ?_
    · refine zsub [1, 2, 3, 4, 5, 0] rfl ?_
      exact sj_X1_breathAfter_73 g l v0 v1 v2 v3 v4 (w0 + w1)
    · refine z_iload (j := 5) (q := 69) (by decide +kernel) rfl 0 rfl ?_
      refine z_iload_n (j := 3) (q := 70) (by decide +kernel) rfl 4 rfl ?_
      refine z_isub (q := 71) (by decide +kernel) rfl ?_
      refine z_istore (j := 5) (q := 73) (by decide +kernel) rfl (by decide) rfl ?_
      refine zsub [1, 2, 3, 4, 5, 0] rfl ?_
      exact sj_X1_breathAfter_73 g l v0 v1 v2 v3 v4 ((w0 + w1) - v3)
def dn_X1_breathAfter (v0 : Nat) (v1 : Int32) (v2 : Int32) (v3 : Int32) (v4 : Int32) : zAH → Option (Int32 × zAH) := fun h => (zgO 1 v0 h).bind fun _ => if 0 < v4 then (zgA 1 7 v0 h).bind fun x1 => (zaI 0 x1 v2 h).bind fun x2 => (zaN 0 h).bind fun x3 => if v4 < x3 then (zaI 0 0 v4 h).bind fun x4 => jn_X1_breathAfter_52 v0 v1 v2 v3 v4 x2 x4 h else jn_X1_breathAfter_52 v0 v1 v2 v3 v4 x2 0 h else (zgA 1 7 v0 h).bind fun x5 => (zaI 0 x5 v2 h).bind fun x6 => if v1 = 4 then jn_X1_breathAfter_25 x6 3 h else (zaI 0 0 0 h).bind fun x7 => jn_X1_breathAfter_25 x6 x7 h
theorem ct_X1_breathAfter (g : zG) (l : Launch) (v0 : Nat) (v1 : Int32) (v2 : Int32) (v3 : Int32) (v4 : Int32) : zCt g l yX1_breathAfter cX1_breathAfter 6 (some .int) 1 21 zrI [.ref v0, .int v1, .int v2, .int v3, .int v4] (dn_X1_breathAfter v0 v1 v2 v3 v4) := by
  refine zCt_of (lv := [(0, .ref v0), (1, .int v1), (2, .int v2), (3, .int v3), (4, .int v4)]) (by decide +kernel) (Nat.le_of_ble_eq_true rfl) rfl ?_
  show zSm g l cX1_breathAfter 6 RX1 "breathAfter" (some .int) 1 21 zrI 0 [(0, .ref v0), (1, .int v1), (2, .int v2), (3, .int v3), (4, .int v4)] [] (dn_X1_breathAfter v0 v1 v2 v3 v4)
  unfold dn_X1_breathAfter
  refine z_rec ?_
  refine z_iload (j := 4) (q := 2) (by decide +kernel) rfl 4 rfl ?_
  refine z_if_gt (off := 25) (t := 27) (q := 5) (by decide +kernel) (by decide) rfl ?_ ?_
  · refine z_aload_n (j := 0) (q := 28) (by decide +kernel) rfl 0 rfl ?_
    refine z_getA (q := 31) zf_RX1_35 (by decide +kernel) rfl fun x1 => ?_
    refine z_iload_n (j := 2) (q := 32) (by decide +kernel) rfl 2 rfl ?_
    refine z_iald (q := 33) (Or.inl ⟨rfl, rfl⟩) (by decide +kernel) rfl fun x2 => ?_
    refine z_iload (j := 4) (q := 35) (by decide +kernel) rfl 4 rfl ?_
    refine z_gets (q := 38) ⟨rfl, rfl⟩ (by decide +kernel) rfl ?_
    refine z_alen (q := 39) (by decide +kernel) rfl fun x3 => ?_
    refine z_icmp_ge (off := 12) (t := 51) (q := 42) (by decide +kernel) (by decide) rfl ?_ ?_
    · refine z_iconst (n := 0) (v := 0) (q := 52) (by decide +kernel) rfl (by decide) ?_
      refine zsub [0, 1, 2, 3, 4] rfl ?_
      exact sj_X1_breathAfter_52 g l v0 v1 v2 v3 v4 x2 0
    · refine z_gets (q := 45) ⟨rfl, rfl⟩ (by decide +kernel) rfl ?_
      refine z_iload (j := 4) (q := 47) (by decide +kernel) rfl 4 rfl ?_
      refine z_iald (q := 48) (Or.inl ⟨rfl, rfl⟩) (by decide +kernel) rfl fun x4 => ?_
      refine z_goto (off := 4) (t := 52) (by decide +kernel) (by decide) ?_
      refine zsub [0, 1, 2, 3, 4] rfl ?_
      exact sj_X1_breathAfter_52 g l v0 v1 v2 v3 v4 x2 x4
  · refine z_aload_n (j := 0) (q := 6) (by decide +kernel) rfl 0 rfl ?_
    refine z_getA (q := 9) zf_RX1_35 (by decide +kernel) rfl fun x5 => ?_
    refine z_iload_n (j := 2) (q := 10) (by decide +kernel) rfl 2 rfl ?_
    refine z_iald (q := 11) (Or.inl ⟨rfl, rfl⟩) (by decide +kernel) rfl fun x6 => ?_
    refine z_iload_n (j := 1) (q := 12) (by decide +kernel) rfl 1 rfl ?_
    refine z_iconst (n := 4) (v := 4) (q := 13) (by decide +kernel) rfl (by decide) ?_
    refine z_icmp_ne (off := 7) (t := 20) (q := 16) (by decide +kernel) (by decide) rfl ?_ ?_
    · refine z_gets (q := 23) ⟨rfl, rfl⟩ (by decide +kernel) rfl ?_
      refine z_iconst (n := 0) (v := 0) (q := 24) (by decide +kernel) rfl (by decide) ?_
      refine z_iald (q := 25) (Or.inl ⟨rfl, rfl⟩) (by decide +kernel) rfl fun x7 => ?_
      refine zsub [] rfl ?_
      exact sj_X1_breathAfter_25 g l x6 x7
    · refine z_iconst (n := 3) (v := 3) (q := 17) (by decide +kernel) rfl (by decide) ?_
      refine z_goto (off := 8) (t := 25) (by decide +kernel) (by decide) ?_
      refine zsub [] rfl ?_
      exact sj_X1_breathAfter_25 g l x6 3
theorem rc_X1_breathAfter (v0 : Nat) (v1 : Int32) (v2 : Int32) (v3 : Int32) (v4 : Int32) : ∀ h x, dn_X1_breathAfter v0 v1 v2 v3 v4 h = some x → ∃ fs, zgO 1 v0 h = some fs := fun h x hd => by
  obtain ⟨fs, e, -⟩ := Option.bind_eq_some_iff.mp hd
  exact ⟨fs, e⟩
def jn_X1_sackMoves_47 (w0 : Int32) : zAH → Option (Int32 × zAH) := fun h => if w0 = 0 ∨ w0 = 1 then some (w0, h) else none
theorem sj_X1_sackMoves_47 (g : zG) (l : Launch) (w0 : Int32) : zSm g l cX1_sackMoves 4 RX1 "sackMoves" (some .boolean) 0 0 zrI 47 [] [.int w0] (jn_X1_sackMoves_47 w0) := by
  unfold jn_X1_sackMoves_47
  exact z_zret (by decide +kernel)
def jn_X1_sackMoves_42 : zAH → Option (Int32 × zAH) := fun h => jn_X1_sackMoves_47 1 h
theorem sj_X1_sackMoves_42 (g : zG) (l : Launch) : zSm g l cX1_sackMoves 4 RX1 "sackMoves" (some .boolean) 0 0 zrI 42 [] [] (jn_X1_sackMoves_42) := by
  unfold jn_X1_sackMoves_42
  refine z_iconst (n := 1) (v := 1) (q := 43) (by decide +kernel) rfl (by decide) ?_
  refine z_goto (off := 4) (t := 47) (by decide +kernel) (by decide) ?_
  refine zsub [] rfl ?_
  exact sj_X1_sackMoves_47 g l 1
def jn_X1_sackMoves_46 : zAH → Option (Int32 × zAH) := fun h => jn_X1_sackMoves_47 0 h
theorem sj_X1_sackMoves_46 (g : zG) (l : Launch) : zSm g l cX1_sackMoves 4 RX1 "sackMoves" (some .boolean) 0 0 zrI 46 [] [] (jn_X1_sackMoves_46) := by
  unfold jn_X1_sackMoves_46
  refine z_iconst (n := 0) (v := 0) (q := 47) (by decide +kernel) rfl (by decide) ?_
  refine zsub [] rfl ?_
  exact sj_X1_sackMoves_47 g l 0
def jn_X1_sackMoves_33 (v2 : Int32) (v3 : Int32) : zAH → Option (Int32 × zAH) := fun h => if v2 = 2 then if 0 < v3 then jn_X1_sackMoves_46 h else jn_X1_sackMoves_42 h else jn_X1_sackMoves_46 h
theorem sj_X1_sackMoves_33 (g : zG) (l : Launch) (v2 : Int32) (v3 : Int32) : zSm g l cX1_sackMoves 4 RX1 "sackMoves" (some .boolean) 0 0 zrI 33 [(2, .int v2), (3, .int v3)] [] (jn_X1_sackMoves_33 v2 v3) := by
  unfold jn_X1_sackMoves_33
  refine z_iload_n (j := 2) (q := 34) (by decide +kernel) rfl 0 rfl ?_
  refine z_iconst (n := 2) (v := 2) (q := 35) (by decide +kernel) rfl (by decide) ?_
  refine z_icmp_ne (off := 11) (t := 46) (q := 38) (by decide +kernel) (by decide) rfl ?_ ?_
  · refine zsub [] rfl ?_
    exact sj_X1_sackMoves_46 g l 
  · refine z_iload_n (j := 3) (q := 39) (by decide +kernel) rfl 1 rfl ?_
    refine z_if_gt (off := 7) (t := 46) (q := 42) (by decide +kernel) (by decide) rfl ?_ ?_
    · refine zsub [] rfl ?_
      exact sj_X1_sackMoves_46 g l 
    · refine zsub [] rfl ?_
      exact sj_X1_sackMoves_42 g l 
def dn_X1_sackMoves (v0 : Nat) (v1 : Int32) (v2 : Int32) (v3 : Int32) : zAH → Option (Int32 × zAH) := fun h => (zgO 1 v0 h).bind fun _ => (zgA 1 9 v0 h).bind fun x1 => (zgI 1 3 v0 h).bind fun x2 => (zaI 0 x1 x2 h).bind fun x3 => if x3 = ((-9)) then if v2 = 0 then jn_X1_sackMoves_42 h else if v2 = 1 then (zgI 1 3 v0 h).bind fun x4 => if x4 = v1 then jn_X1_sackMoves_42 h else jn_X1_sackMoves_33 v2 v3 h else jn_X1_sackMoves_33 v2 v3 h else if (0 : Int32) = 0 ∨ (0 : Int32) = 1 then some (0, h) else none
theorem ct_X1_sackMoves (g : zG) (l : Launch) (v0 : Nat) (v1 : Int32) (v2 : Int32) (v3 : Int32) : zCt g l yX1_sackMoves cX1_sackMoves 4 (some .boolean) 0 0 zrI [.ref v0, .int v1, .int v2, .int v3] (dn_X1_sackMoves v0 v1 v2 v3) := by
  refine zCt_of (lv := [(0, .ref v0), (1, .int v1), (2, .int v2), (3, .int v3)]) (by decide +kernel) (Nat.le_of_ble_eq_true rfl) rfl ?_
  show zSm g l cX1_sackMoves 4 RX1 "sackMoves" (some .boolean) 0 0 zrI 0 [(0, .ref v0), (1, .int v1), (2, .int v2), (3, .int v3)] [] (dn_X1_sackMoves v0 v1 v2 v3)
  unfold dn_X1_sackMoves
  refine z_rec ?_
  refine z_aload_n (j := 0) (q := 1) (by decide +kernel) rfl 0 rfl ?_
  refine z_getA (q := 4) zf_RX1_41 (by decide +kernel) rfl fun x1 => ?_
  refine z_aload_n (j := 0) (q := 5) (by decide +kernel) rfl 0 rfl ?_
  refine z_getI (q := 8) zf_RX1_21 (by decide +kernel) rfl fun x2 => ?_
  refine z_iald (q := 9) (Or.inl ⟨rfl, rfl⟩) (by decide +kernel) rfl fun x3 => ?_
  refine z_bipush (n := (-9)) (v := (-9)) (q := 11) (by decide +kernel) rfl (by decide) ?_
  refine z_icmp_eq (off := 5) (t := 16) (q := 14) (by decide +kernel) (by decide) rfl ?_ ?_
  · refine z_iload_n (j := 2) (q := 17) (by decide +kernel) rfl 2 rfl ?_
    refine z_if_eq (off := 25) (t := 42) (q := 20) (by decide +kernel) (by decide) rfl ?_ ?_
    · refine zsub [] rfl ?_
      exact sj_X1_sackMoves_42 g l 
    · refine z_iload_n (j := 2) (q := 21) (by decide +kernel) rfl 2 rfl ?_
      refine z_iconst (n := 1) (v := 1) (q := 22) (by decide +kernel) rfl (by decide) ?_
      refine z_icmp_ne (off := 11) (t := 33) (q := 25) (by decide +kernel) (by decide) rfl ?_ ?_
      · refine zsub [2, 3] rfl ?_
        exact sj_X1_sackMoves_33 g l v2 v3
      · refine z_aload_n (j := 0) (q := 26) (by decide +kernel) rfl 0 rfl ?_
        refine z_getI (q := 29) zf_RX1_21 (by decide +kernel) rfl fun x4 => ?_
        refine z_iload_n (j := 1) (q := 30) (by decide +kernel) rfl 1 rfl ?_
        refine z_icmp_eq (off := 12) (t := 42) (q := 33) (by decide +kernel) (by decide) rfl ?_ ?_
        · refine zsub [] rfl ?_
          exact sj_X1_sackMoves_42 g l 
        · refine zsub [2, 3] rfl ?_
          exact sj_X1_sackMoves_33 g l v2 v3
  · refine z_iconst (n := 0) (v := 0) (q := 15) (by decide +kernel) rfl (by decide) ?_
    exact z_zret (by decide +kernel)
theorem rc_X1_sackMoves (v0 : Nat) (v1 : Int32) (v2 : Int32) (v3 : Int32) : ∀ h x, dn_X1_sackMoves v0 v1 v2 v3 h = some x → ∃ fs, zgO 1 v0 h = some fs := fun h x hd => by
  obtain ⟨fs, e, -⟩ := Option.bind_eq_some_iff.mp hd
  exact ⟨fs, e⟩
