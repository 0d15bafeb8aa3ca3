/-! THE CLAIM OUT OF ONE WALK OF THE LAW'S BODY. Your part is whole_start (and what it stands on); all else here is the same for every law, but numbers. -/
def R_law : String := "PassedCarryLaw"
def lw_P (b : Addr) (xs : List Int32) (args : Array Value) (s : State) : Prop := args = #[.ref b] ∧ s.IntsAt b xs ∧ xs.length ≤ 384 ∧ (Jvm.Cond.and given_1 narrow_1).before args s = true
def lw_Q (_ : Array Value) (s : State) (o : Outcome) (t : State) : Prop := o = .returned (some (.int 1)) ∧ Framed s o t [] 600000 7302250
def lw_Z (below : List Frame) (a : Array Value) (s : State) : State → Prop := fun t => ∃ o, t.status = .running ∧ Ended t below o ∧ lw_Q a s o t
/-- the law's own end, with 1 on the stack, nothing written that was there before, its room as the claim has it -/
theorem lw_ret {p : Program} {l : Launch} {e : Env} {s : State} {m : MethodId} {below : List Frame} {meth : Method} {c : Code} {b : Nat} (hx : p.tables.exec = Jvm.exec) (hb : c.code = code) (hr : meth.sig.returnType = ret) (hlocks : meth.locks = false) {pc : Nat} {H : Heap} {ls : Array Slot} (hdg : decode code pc = .ok (.ireturn, 1)) : W p l e room_1 s m #[Value.ref b] below meth c H [] 600000 7302250 (lw_Z below #[Value.ref b] s) (F0 m pc ls [.int 1]) := by
  intro T hT X
  obtain ⟨fs, hret, hrun, hended, hW, hframe⟩ := X.leave (v := some (.int 1)) (hlocks := hlocks) (fun h => by rw [hr] at h; cases h)
  have hmeth' : T.vm.method? m = some meth := X.method'
  refine ⟨T.setFrames fs, ?_, .returned (some (.int 1)), hrun, hended, rfl, ⟨_, rfl⟩, hW, hframe⟩
  jvm_step X.here [X.here.top, hx, hb, hdg, hmeth', hr, ret, narrow_b1]
  (try refine ⟨rfl, ?_⟩); (try refine ⟨rfl, ?_⟩)
  first | (intro acts; rw [hret _ acts rfl rfl rfl]) | rw [hret _ _ rfl rfl rfl]
  exact Steps.refl _
/-- what holds at the law's entry: the machine, the code, the tables' words (any of lw_tbl by 'hts w (by decide +kernel)'), the script of L ints xs at the cell b, what the Statement gives of the start (any of its parts by flat_of_before) -/
def lw_At (p : Program) (s : State) (m : MethodId) (meth : Method) (c : Code) (b L : Nat) (xs : Nat → Int32) : Prop :=
  p.tables.exec = Jvm.exec ∧ c.code = code ∧ meth.sig.returnType = ret ∧ c.maxLocals = 4 ∧ s.vm.findClass R_law = some m.cls ∧ (∀ w ∈ lw_tbl, w.before #[Value.ref b] s = true) ∧ va_X b L xs s s.heap ∧ b < s.heap.size ∧ meth.locks = false ∧ (Jvm.Cond.and given_1 narrow_1).before #[Value.ref b] s = true
theorem sm_L_law (g : zG) (l : Launch) (v0 : Nat) : zSm g l cL_law 4 RL "law" (some .boolean) 9 205 zrI 0 [(0, .ref v0)] [] (dn_L_law v0) := by
  unfold dn_L_law
  refine z_new (q := 3) zn_RL_7 (by decide +kernel) rfl fun x1 => ?_
  refine z_dup (q := 4) (by decide +kernel) rfl rfl ?_
  refine z_callC (As := []) (st := [.ref x1]) (q := 7) (ct_X4_init g l x1) zm_RL_9 (rc_X4_init x1) rfl (by decide) (by decide) (Nat.le_of_ble_eq_true rfl) rfl (by decide +kernel) rfl fun x3 => ?_
  refine z_astore_n (j := 1) (q := 8) (by decide +kernel) rfl (by decide) rfl ?_
  refine z_new (q := 11) zn_RL_10 (by decide +kernel) rfl fun x5 => ?_
  refine z_dup (q := 12) (by decide +kernel) rfl rfl ?_
  refine z_callC (As := []) (st := [.ref x5]) (q := 15) (ct_X5_init g l x5) zm_RL_12 (rc_X5_init x5) rfl (by decide) (by decide) (Nat.le_of_ble_eq_true rfl) rfl (by decide +kernel) rfl fun x7 => ?_
  refine z_astore_n (j := 2) (q := 16) (by decide +kernel) rfl (by decide) rfl ?_
  refine z_iconst (n := 0) (v := 0) (q := 17) (by decide +kernel) rfl (by decide) ?_
  refine z_istore_n (j := 3) (q := 18) (by decide +kernel) rfl (by decide) rfl ?_
  refine zsub [3, 2, 1, 0] rfl ?_
  exact sl_L_law_18 g l v0 x1 x5 0
theorem ar_p {args : Array Value} {s : State} {ty : FieldType} (h : (Cond.arrayClass ty).before args s = true) : ∃ cA, ArrOfT s cA ty ∧ s.vm.findClass ("[" ++ ty.toString) = some cA := by
  obtain ⟨c, k, comp, h1, h2, h3⟩ := Cond.arrayClass_spec h
  exact ⟨c, fun n z => ⟨fun k h => (by cases h), k, h2, comp, h3⟩, h1⟩
theorem ar_o {args : Array Value} {s : State} {C : String} (h : (Cond.arrayOver (.object C)).before args s = true) : ∃ cA, ArrOfT s cA (.object C) ∧ va_RA s cA (.object C) := by
  obtain ⟨comp, c, k, h1, h2, h3, h4, h5⟩ := Cond.arrayOver_spec h
  exact ⟨c, fun N z => ⟨(fun k h => by cases h), k, h3, comp, h4⟩, k, comp, h3, h4, h1, h5⟩
theorem st_el {args : Array Value} {s : State} (hgv : (Jvm.Cond.and given_1 narrow_1).before args s = true) : ∀ j : Nat, j < 4 → (Term.elem (.static "PassedCarry" "BREATH_CHANGE" "[I") (.int (Int32.ofNat j))).eval args s none [] s = some (.int (zBch j)) := by
  have flat := flat_of_before _ hgv
  intro j hj
  match j, hj with
  | 0, _ => exact va_eqt (z := 2) (flat _ (by decide +kernel))
  | 1, _ => exact va_eqt (z := 1) (flat _ (by decide +kernel))
  | 2, _ => exact va_eqt (z := -1) (flat _ (by decide +kernel))
  | 3, _ => exact va_eqt (z := -3) (flat _ (by decide +kernel))
/-- from the entry, for every script of at most 384 ints, the law comes to its end with true -/
theorem whole_start {p : Program} {e : Env} {s : State} {m : MethodId} {below : List Frame} {meth : Method} {c : Code} (l : Launch) {b L : Nat} {xs : Nat → Int32} (hL : L ≤ 384) (C0 : lw_At p s m meth c b L xs) (hnm : meth.name = "law") : W p l e room_1 s m #[Value.ref b] below meth c s.heap [] 0 0 (lw_Z below #[Value.ref b] s) (entryFrame m ([Value.ref b] : List Value).toArray 4) := by
  obtain ⟨hx, hb, hr, hml, hown, hts, hX, hbl, hlocks, hgv⟩ := C0
  have hz : ∀ w ∈ zWT, w.before #[Value.ref b] s = true := fun w hw => hts w (List.mem_filter.mp hw).1
  have flat := flat_of_before _ hgv
  have hA : ∀ a : Nat, a < s.heap.size → ¬ (fun q : Nat => s.heap.size ≤ q) a := fun a ha => Nat.not_le.mpr ha
  obtain ⟨sa, hsa, hT⟩ := va_Tof (tm := .static "PassedCarry" "BREATH_CHANGE" "[I") (ty := .int) (N := 4) (f := fun j => .int (zBch j)) (A := fun q => s.heap.size ≤ q) (by decide) (flat _ (by decide +kernel)) (va_eqt (z := 4) (flat _ (by decide +kernel))) (st_el hgv) hA
  have hZ := va_Zof (C := "PassedCarry") (n := "BREATH_CHANGE") (d := "[I") (A := fun q => s.heap.size ≤ q) (hts (.laysStatic "PassedCarry" "BREATH_CHANGE" "[I") (by decide +kernel)) (hts (.initialized "PassedCarry") (by decide +kernel)) hsa hA
  have hsaB : sa < s.heap.size := by
    obtain ⟨cell, h1, -⟩ := hT
    exact (Array.getElem?_eq_some_iff.mp h1).1
  obtain ⟨c0, i0, k0⟩ := u_known (C := RX0) (T := TX0) (N := 8) (n := 8) hz zinX0 (hts (.instantiable RX0 8) (by decide +kernel))
  obtain ⟨c1, i1, k1⟩ := u_known (C := RX1) (T := TX1) (N := 12) (n := 12) hz zinX1 (hts (.instantiable RX1 12) (by decide +kernel))
  obtain ⟨c2, i2, k2⟩ := u_known (C := RX2) (T := TX2) (N := 3) (n := 3) hz zinX2 (hts (.instantiable RX2 3) (by decide +kernel))
  obtain ⟨c3, i3, k3⟩ := u_known (C := RX3) (T := TX3) (N := 2) (n := 2) hz zinX3 (hts (.instantiable RX3 2) (by decide +kernel))
  obtain ⟨c4, i4, k4⟩ := u_known (C := RX4) (T := TX4) (N := 18) (n := 18) hz zinX4 (hts (.instantiable RX4 18) (by decide +kernel))
  obtain ⟨c5, i5, k5⟩ := u_known (C := RX5) (T := TX5) (N := 37) (n := 37) hz zinX5 (hts (.instantiable RX5 37) (by decide +kernel))
  obtain ⟨a0, x0, y0⟩ := ar_p (hts (.arrayClass .int) (by decide +kernel))
  obtain ⟨a1, x1, y1⟩ := ar_p (hts (.arrayClass .byte) (by decide +kernel))
  obtain ⟨a2, x2, y2⟩ := ar_p (hts (.arrayClass .boolean) (by decide +kernel))
  obtain ⟨a3, x3, y3⟩ := ar_o (C := RX3) (hts (.arrayOver (.object RX3)) (by decide +kernel))
  obtain ⟨a4, x4, y4⟩ := ar_o (C := RX1) (hts (.arrayOver (.object RX1)) (by decide +kernel))
  obtain ⟨dC, dI, hKc⟩ : ∃ (dC : Nat → ClassId) (dI : Nat → Nat → Nat), ∀ (k : Nat) (q : vw_C), zCl[k]? = some q → u_Kn s q.1 q.2.1 q.2.2 (dC k) (dI k) := by
    refine ⟨fun k => match k with | 0 => c0 | 1 => c1 | 2 => c2 | 3 => c3 | 4 => c4 | _ => c5, fun k => match k with | 0 => i0 | 1 => i1 | 2 => i2 | 3 => i3 | 4 => i4 | _ => i5, ?_⟩
    intro k q hq
    match k, hq with
    | 0, hq => cases hq; exact k0
    | 1, hq => cases hq; exact k1
    | 2, hq => cases hq; exact k2
    | 3, hq => cases hq; exact k3
    | 4, hq => cases hq; exact k4
    | 5, hq => cases hq; exact k5
    | k + 6, hq => simp [zCl] at hq
  obtain ⟨cA, f0, f1, f2, f3, f4⟩ : ∃ cA : Nat → ClassId, cA 0 = a0 ∧ cA 1 = a1 ∧ cA 2 = a2 ∧ cA 3 = a3 ∧ cA 4 = a4 := ⟨fun k => match k with | 0 => a0 | 1 => a1 | 2 => a2 | 3 => a3 | _ => a4, rfl, rfl, rfl, rfl, rfl⟩
  obtain ⟨g, hg⟩ : ∃ g : zG, g = (s.heap.size, sa, b, L, xs, (dC, dI), cA) := ⟨_, rfl⟩
  have hK : va_K (zD g) zCl (zTy g) s := by
    subst hg
    refine ⟨hKc, fun k q hq => ?_⟩
    match k, hq with
    | 0, hq => cases hq; show ArrOfT s (cA 0) .int ∧ va_RA s (cA 0) .int; rw [f0]; exact ⟨x0, y0⟩
    | 1, hq => cases hq; show ArrOfT s (cA 1) .byte ∧ va_RA s (cA 1) .byte; rw [f1]; exact ⟨x1, y1⟩
    | 2, hq => cases hq; show ArrOfT s (cA 2) .boolean ∧ va_RA s (cA 2) .boolean; rw [f2]; exact ⟨x2, y2⟩
    | 3, hq => cases hq; show ArrOfT s (cA 3) (.object RX3) ∧ va_RA s (cA 3) (.object RX3); rw [f3]; exact ⟨x3, y3⟩
    | 4, hq => cases hq; show ArrOfT s (cA 4) (.object RX1) ∧ va_RA s (cA 4) (.object RX1); rw [f4]; exact ⟨x4, y4⟩
    | k + 5, hq => simp [zTy] at hq
  have hN1 : va_Nw (.methodLinkNest RX4 20 yX0_init RX4) s := va_Nw.of rfl (hts (.methodLinkNest RX4 20 yX0_init RX4) (by decide +kernel))
  have hN2 : va_Nw (.methodLinkNest RX4 30 yX1_init RX4) s := va_Nw.of rfl (hts (.methodLinkNest RX4 30 yX1_init RX4) (by decide +kernel))
  have hN3 : va_Nw (.fieldLinkNest RX1 100 RX4 "BREATH_CHANGE" "[I" RX4) s := va_Nw.of rfl (hts (.fieldLinkNest RX1 100 RX4 "BREATH_CHANGE" "[I" RX4) (by decide +kernel))
  have hO1 : va_AO RX3 s := va_AO.of (hts (.arrayOver (.object RX3)) (by decide +kernel))
  have hO2 : va_AO RX1 s := va_AO.of (hts (.arrayOver (.object RX1)) (by decide +kernel))
  have hKs : zKs g s s.heap := by
    subst hg
    exact ⟨hK, hZ, hT, hX, hbl, hsaB, hN1, hN2, hN3, hO1, hO2⟩
  have hWd : zWd g (hL_ (L, xs)) s.heap := by
    subst hg
    refine ⟨rfl, rfl, rfl, fun i c hc => ?_⟩
    have e : (hL_ (L, xs)).1 (i + 2) = ([] : List zAC)[i]? := hL_at
    rw [e] at hc
    simp at hc
  have hB : zB g ≤ s.heap.size := by subst hg; exact Nat.le_refl _
  have hfr : ∀ q, zfr g q → s.heap.size ≤ q := by subst hg; exact fun q h => h
  have hSf : va_S (zfr g) s.heap s.heap [] := va_S.rf
  obtain ⟨h', hd, hc1, hc2⟩ := law_ok (L, xs) hL
  have hl := lv_entry ([.ref b]) (n := 4) (Nat.le_of_ble_eq_true rfl)
  rw [lg_entry_eq]
  generalize (lg_sl ([.ref b]) ++ List.replicate (4 - (lg_sl ([.ref b])).length) Slot.unset).toArray = ls at hl ⊢
  have hl : lv_has ls 4 (zlm g [(0, .ref 1)]) := by subst hg; exact hl
  have kk := (sm_L_law g l 1 (hL_ (L, xs)) 1 h' hd).2 p e s m #[Value.ref b] below meth c s.heap [] ls 0 0 room_1 ⟨⟨hx, hb, hml, hown, hz, hr, hlocks, hnm⟩, hKs, hSf, hWd, hB, hl, ⟨Nat.zero_le _, Nat.zero_le _⟩, by decide, by decide, by show h'.2.1 - 0 ≤ 600000; omega, by show h'.2.2 - 0 ≤ 7302250; omega⟩
  intro T hTT X
  obtain ⟨t, st, o, q1, q2, ⟨q3, -, -⟩, Ls, q4, q5⟩ := kk T hTT X
  exact ⟨t, st, o, q1, q2, q3, q4.1, q4.2.1, q4.2.2.weaken (fun x hx hlt => absurd hlt (Nat.not_lt.mpr (hfr _ (q5 x hx)))) (by omega) (by omega)⟩
set_option maxHeartbeats 4000000 in
theorem lw_walk (l : Launch) (b : Addr) (xs : List Int32) : MetFree l x (headSpec (Jvm.Cond.code x code maxLocals ret :: tables_1) room_1) (lw_P b xs) (fun _ _ _ _ _ => True) lw_Q := by
  refine MetFree.of_bodyS (code := code) (maxLocals := maxLocals) (ret := ret) (by decide) ?_ ?_
  · intro args s m h hn
    obtain ⟨meth, c, h1, h2, h3, h4, h5, h6, -, -⟩ := Cond.code_spec hn (atoms_spec (ws := Jvm.Cond.code x code maxLocals ret :: tables_1) h _ List.mem_cons_self)
    exact ⟨meth, c, h1, h2, h3, h4, h5, h6⟩
  · intro p e s m args below meth c s₁ B hml0 hP _
    obtain ⟨rfl, hx, hbd, hgv⟩ := hP
    obtain ⟨scr, harrAt, hlist, hof, hsmall⟩ := hx
    obtain ⟨hcb, hkn, -, -⟩ := State.arrayAt?_spec harrAt
    have hown : s.vm.findClass R_law = some m.cls := findClass_of_methodNamed B.named
    have hts0 : ∀ c ∈ (Jvm.Cond.code x code maxLocals ret :: tables_1), c.before #[Value.ref b] s = true := atoms_spec (ws := Jvm.Cond.code x code maxLocals ret :: tables_1) B.pre
    have hts : ∀ w ∈ lw_tbl, w.before #[Value.ref b] s = true := k2_hts_sels lw_privs (fun w hw => hts0 w (List.mem_cons_of_mem _ hw)) lw_privs_ok
    have hml : c.maxLocals = 4 := B.maxLocals_eq (hts0 _ List.mem_cons_self)
    have X₀ : Stand p l e room_1 s m #[Value.ref b] below meth c s₁ [] 0 0 := Stand.of_body B
    have hh0 : s₁.heap = s.heap := by rw [B.state]; rfl
    have hsz : scr.slots.size = xs.length := by rw [← Array.length_toList, hlist, List.length_map]
    have hval : ∀ j : Nat, j < xs.length → scr.slots[j]? = some (.int (xs.getD j 0)) := fun j hj => by
      rw [← Array.getElem?_toList, hlist]
      simp [hj]
    have hbl : b < s.heap.size := (Array.getElem?_eq_some_iff.mp hcb).1
    have hX : va_X b xs.length (fun j => xs.getD j 0) s s.heap := ⟨scr, hcb, hof, hkn, hsz, hval⟩
    have K : W p l e room_1 s m #[Value.ref b] below meth c s₁.heap [] 0 0 (lw_Z below #[Value.ref b] s) (entryFrame m ([Value.ref b] : List Value).toArray 4) := by
      rw [hh0]
      exact whole_start l hbd ⟨B.exec, B.bytes, B.returns, hml, hown, hts, hX, hbl, B.notSynchronized, hgv⟩ (name_of_methodNamed B.named B.method).1
    obtain ⟨t, a1, o, b1, b2, b3⟩ := K s₁ rfl X₀
    exact ⟨t, o, a1, b1, b2, b3⟩
theorem lw_pre_spec {args : Array Value} {s : State} (h : (Jvm.Cond.and given_1 narrow_1).before args s = true) (hr : rest_1_c.before args s = true) : ∃ (b : Addr) (xs : List Int32), lw_P b xs args s := by
  have hs := flat_of_before _ h
  have hq := flat_of_before _ hr
  have hc : (Cond.count 1).before args s = true := hs _ (by decide +kernel)
  have harr : (Cond.arrayOf (.arg 0) .int).before args s = true := hs _ (by decide +kernel)
  have hle : (Cond.le (.length (.arg 0)) (.int 384)).before args s = true := hs _ (by decide +kernel)
  have hlen : (Cond.isInt (.length (.arg 0))).before args s = true := hq _ (by decide +kernel)
  have hall : (Cond.all (.arg 0) (.isInt (.elem (.arg 0) (.index 0)))).before args s = true := hq _ (by decide +kernel)
  obtain ⟨b, xs, hb, hx⟩ := State.ints_of_pre rfl harr hlen hall
  have hsm : xs.length < 2 ^ 31 := hx.choose_spec.2.2.2
  have hev : (Term.length (.arg 0)).eval args s none [] s = some (.int xs.length.toInt32) := hx.length_eval hb
  have hv := Cond.le_ints hev (show (Term.int 384).eval args s none [] s = some (.int 384) from rfl)
  have hd : xs.length.toInt32 ≤ 384 := by
    simpa [Cond.before, Cond.holds, hv] using hle
  have hN : xs.length ≤ 384 := (Int32.ofNat_le_ofNat hsm (by decide)).mp (show Int32.ofNat xs.length ≤ Int32.ofNat 384 from hd)
  exact ⟨b, xs, Cond.one_arg hc (show args[0]? = some (.ref b) from hb), hx, hN, h⟩
theorem lw_comes (l : Launch) : Comes l x (Jvm.Cond.code x code maxLocals ret :: tables_1) room_1 (fun tb e args s => Calls_1 tb e args s ∧ rest_1 tb e args s ∧ Pre_1 tb e args s)
    (fun _ _ args s o t => lw_Q args s o t) := by
  intro p e ha hc hk s m args below hf hfit hheap happ hpre
  obtain ⟨b, xs, hP⟩ := lw_pre_spec hpre.2.2 hpre.2.1
  obtain ⟨k, o, h1, h2, h3, hQ⟩ := lw_walk l b xs p e ha hc hk s m args below hf ((Spec.applies_iff_loose hf).mp happ).1 hP trivial
  exact ⟨k, o, h1, h2, h3, hQ⟩
theorem lw_frame {s t : State} {o : Outcome} {args : Array Value} (h : Framed s o t [] 600000 7302250) :
    Framed s o t (fieldLocs frame_1_writes args s ++ arrayLocs frame_1_arrays args s ++ staticLocs frame_1_statics s) 600000 7302250 := h
theorem lw_limb (L : Cond) (hL : ∀ (args : Array Value) (s t : State), L.after args s (.returned (some (.int 1))) t = true) :
    ArmFor flags0 classFile x code maxLocals ret World_1 tables_1 room_1 Calls_1 rest_1 Pre_1
      (fun tb e a s o t => postC L tb e a s o t ∧ Framed s o t (fieldLocs frame_1_writes a s ++ arrayLocs frame_1_arrays a s ++ staticLocs frame_1_statics s) 600000 7302250) := by
  intro l _ _ _ p e ha hc hk s m args below hf hfit hheap happ hpre
  obtain ⟨k, o, h1, h2, h3, rfl, hF⟩ := lw_comes l p e ha hc hk s m args below hf hfit hheap happ hpre
  exact ⟨k, _, h1, h2, h3, hL args s _, lw_frame hF⟩
theorem i_vc : Claimed_1_1 ∧ Claimed_1_2 := ⟨lw_limb limb_1_1 (fun args s t => by simp [limb_1_1, Cond.after, Cond.holds, Cond.value]), lw_limb limb_1_2 (fun args s t => Cond.after_iff.mpr (by
  first | (rw [show limb_1_2 = Cond.eq .result (.int 1) from rfl, Cond.eq_ints (x := 1) (y := 1) rfl rfl]; simp; done) | (simp [limb_1_2, Cond.value, Term.eval]; done)))⟩
