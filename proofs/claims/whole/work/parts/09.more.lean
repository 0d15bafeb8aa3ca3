def zbd {σ ρ : Type} (o : Option (σ × zAH)) (k : σ → zAH → Option (ρ × zAH)) : Option (ρ × zAH) := o.bind fun x => k x.1 x.2
section zR5
variable {ρ : Type} {g : zG} {l : Launch} {cc : ByteArray} {nL : Nat} {own nm : String} {ret : Option FieldType} {F L : Nat} {rv : ρ → Option Value} {pc q t : Nat} {lv lv' : List (Nat × Value)} {st : List Value}
theorem z_aast {kd a v : Nat} {i : Int32} {k : zAH → Option (ρ × zAH)} (hkd : kd = 3 ∨ kd = 4) (hd : decode cc pc = .ok (.aastore, 1)) (he : pc + 1 = q) (hk : zSm g l cc nL own nm ret F L rv q lv st k) : zSm g l cc nL own nm ret F L rv pc lv (.ref v :: .int i :: .ref a :: st) (fun h => (zaQ kd a i v h).bind fun h1 => k h1) := by
  subst he
  intro h r h' hdn
  obtain ⟨h1, hg, hdn⟩ := Option.bind_eq_some_iff.mp hdn
  unfold zaQ at hg
  by_cases ha2 : a < 2 ∨ v < 2
  · rw [if_pos ha2] at hg; cases hg
  · rw [if_neg ha2] at hg
    obtain ⟨vs, hov, hg2⟩ := Option.bind_eq_some_iff.mp hg
    clear hg
    have hg := hg2
    clear hg2
    split at hg
    · next kd' n f hc =>
      split at hg
      · next hk' =>
        subst hk'
        split at hg
        · cases hg
        · next hin =>
          cases hg
          obtain ⟨hm, hw⟩ := hk _ r h' hdn
          refine ⟨hm, fun p e s m args below meth c H locs ls n0 s0 R E => ?_⟩
          obtain ⟨hC, hK, hS, hW, hbs, hE⟩ := E
          obtain ⟨j, rfl⟩ : ∃ j, a = j + 2 := ⟨a - 2, by omega⟩
          obtain ⟨q1, q2⟩ := hW.2.2.2 j _ hc
          obtain ⟨jv, rfl, v1, v2⟩ := zgO_at hW hov
          have go : ∀ (H1 : Heap), H1[zB g + j]? = some (vp_cell (zcA g kd') (n, .inr (.inr (.inr (.inr (fun z => (va_up f i.toNatClampNeg (some (jv + 2)) z).map (zca g))))))) → H1.size = H.size → (∀ q : Nat, q ≠ zB g + j → H1[q]? = H[q]?) → ∀ sl : Nat, W p l e R s m args below meth c H1 (locs ++ [⟨zB g + j, sl⟩]) (h.2.1 - n0) (h.2.2 - s0) (MQ below (zQ g rv r h') args s (h'.2.1 - n0) (h'.2.2 - s0) (zfr g)) (F0 m (pc + 1) ls (st.map (zcv g))) := by
            intro H1 e1 z1 o1 sl
            exact hw p e s m args below meth c H1 _ ls n0 s0 R ⟨hC, hK, hS.put z1 o1 (Nat.le_add_right _ _), zWd.up hW hc z1 e1 o1, hbs, hE⟩
          obtain ⟨hx, hb, -, hown, ht, -⟩ := hC
          have q3 : H[zB g + j]? = some (arrV (zcA g kd') n (fun z => va_rf ((f z).map (zca g)))) := q2
          have hlt : i.toNatClampNeg < n := Nat.not_le.mp fun z => hin (Or.inr z)
          have h0 : ¬ i < 0 := fun z => hin (Or.inl z)
          have hst : (arrV (zcA g kd') n (fun z => va_rf ((f z).map (zca g)))).setSlot i.toNatClampNeg (.ref (zB g + jv)) = vp_cell (zcA g kd') (n, .inr (.inr (.inr (.inr (fun z => (va_up f i.toNatClampNeg (some (jv + 2)) z).map (zca g)))))) := by
            rw [vp_cell_q, arrV_store]
            congr 1
            funext z
            by_cases hz : z = i.toNatClampNeg
            · subst hz; simp [updV, va_up, va_rf, zca]
            · simp [updV, va_up, hz]
          obtain ⟨r', hr', cellV, g1, g2, g3, -⟩ := v2
          rcases hkd with rfl | rfl
          · have hcls := (hK.1.1 3 (RX3, TX3, 2) rfl).2
            obtain ⟨kA, comp, k1, k2, k3, -⟩ := (hK.1.2 3 _ rfl).2
            have hcomp : comp = (zD g).1 3 := Option.some.inj (k3.symm.trans hcls.1)
            subst hcomp
            obtain ⟨kC, hkC, -⟩ := hcls.2
            exact W.aast hx hb q3 (fun q h => by cases h) (fun h => by cases h) k1 k2 rfl hkC ⟨h0, by show _ < (arrV _ _ _).slots.size; rw [arrV_size]; exact hlt⟩ g1 (fun q h => by rw [g3] at h; cases h) (by rw [g2]; exact hkC) (by rw [g2]; exact va_assign hcls) rfl rfl hd fun H1 e1 z1 o1 => go H1 (by rw [e1, hst]) z1 o1 _
          · have hcls := (hK.1.1 1 (RX1, TX1, 12) rfl).2
            obtain ⟨kA, comp, k1, k2, k3, -⟩ := (hK.1.2 4 _ rfl).2
            have hcomp : comp = (zD g).1 1 := Option.some.inj (k3.symm.trans hcls.1)
            subst hcomp
            obtain ⟨kC, hkC, -⟩ := hcls.2
            exact W.aast hx hb q3 (fun q h => by cases h) (fun h => by cases h) k1 k2 rfl hkC ⟨h0, by show _ < (arrV _ _ _).slots.size; rw [arrV_size]; exact hlt⟩ g1 (fun q h => by rw [g3] at h; cases h) (by rw [g2]; exact hkC) (by rw [g2]; exact va_assign hcls) rfl rfl hd fun H1 e1 z1 o1 => go H1 (by rw [e1, hst]) z1 o1 _
      · cases hg
    · cases hg
theorem z_gets {idx : Nat} {k : zAH → Option (ρ × zAH)} (ho : own = RX1 ∧ idx = 100) (hd : decode cc pc = .ok (.getstatic idx, 3)) (he : pc + 3 = q) (hk : zSm g l cc nL own nm ret F L rv q lv (.ref 0 :: st) k) : zSm g l cc nL own nm ret F L rv pc lv st k := by
  obtain ⟨rfl, rfl⟩ := ho
  subst he
  intro h r h' hdn
  obtain ⟨hm, hw⟩ := hk h r h' hdn
  refine ⟨hm, fun p e s m args below meth c H locs ls n0 s0 R E => ?_⟩
  have kk := hw p e s m args below meth c H locs ls n0 s0 R E
  obtain ⟨⟨hx, hb, -, hown, ht, -⟩, hK, hS, hW, hbs, -⟩ := E
  exact va_getsN hx hb hK.2.1 hS hown (va_Nw.use rfl hK.2.2.2.2.2.2.2.2.1) (fun x hx => hx) hd kk
theorem z_iret {x : Int32} (hd : decode cc pc = .ok (.ireturn, 1)) : zSm g l cc nL own nm (some .int) F L zrI pc lv [.int x] (fun h => some (x, h)) := by
  intro h r h' hdn
  cases hdn
  refine ⟨⟨Nat.le_refl _, Nat.le_refl _⟩, fun p e s m args below meth c H locs ls n0 s0 R E => ?_⟩
  obtain ⟨⟨hx, hb, -, hown, ht, hr, hlk, -⟩, hK, hS, hW, hbs, -⟩ := E
  exact W.iret hx hb hr (fun t ht hW2 => ⟨rfl, by rw [ht]; exact hW, fun q hq => by rw [ht]; exact hS.2.1 q (Nat.lt_of_lt_of_le hq hbs) (Nat.not_le.mpr hq)⟩) hS.2.2 hd hlk
theorem z_zret {x : Int32} (hd : decode cc pc = .ok (.ireturn, 1)) : zSm g l cc nL own nm (some .boolean) F L zrI pc lv [.int x] (fun h => if x = 0 ∨ x = 1 then some (x, h) else none) := by
  intro h r h' hdn
  replace hdn : (if x = 0 ∨ x = 1 then some (x, h) else none) = some (r, h') := hdn
  split at hdn
  · next hz =>
    cases hdn
    refine ⟨⟨Nat.le_refl _, Nat.le_refl _⟩, fun p e s m args below meth c H locs ls n0 s0 R E => ?_⟩
    obtain ⟨⟨hx, hb, -, hown, ht, hr, hlk, -⟩, hK, hS, hW, hbs, -⟩ := E
    exact W.zret hx hb hr (by rcases hz with rfl | rfl <;> rfl) (fun t ht hW2 => ⟨rfl, by rw [ht]; exact hW, fun q hq => by rw [ht]; exact hS.2.1 q (Nat.lt_of_lt_of_le hq hbs) (Nat.not_le.mpr hq)⟩) hS.2.2 hd hlk
  · cases hdn
theorem z_lret {x : Int64} (hd : decode cc pc = .ok (.lreturn, 1)) : zSm g l cc nL own nm (some .long) F L zrL pc lv [.long x] (fun h => some (x, h)) := by
  intro h r h' hdn
  cases hdn
  refine ⟨⟨Nat.le_refl _, Nat.le_refl _⟩, fun p e s m args below meth c H locs ls n0 s0 R E => ?_⟩
  obtain ⟨⟨hx, hb, -, hown, ht, hr, hlk, -⟩, hK, hS, hW, hbs, -⟩ := E
  exact W.lret hx hb hr (fun t ht hW2 => ⟨rfl, by rw [ht]; exact hW, fun q hq => by rw [ht]; exact hS.2.1 q (Nat.lt_of_lt_of_le hq hbs) (Nat.not_le.mpr hq)⟩) hS.2.2 hd hlk
theorem z_vret (hd : decode cc pc = .ok (.return_, 1)) : zSm g l cc nL own nm none F L zrV pc lv [] (fun h => some ((), h)) := by
  intro h r h' hdn
  cases hdn
  refine ⟨⟨Nat.le_refl _, Nat.le_refl _⟩, fun p e s m args below meth c H locs ls n0 s0 R E => ?_⟩
  obtain ⟨⟨hx, hb, -, hown, ht, hr, hlk, -⟩, hK, hS, hW, hbs, -⟩ := E
  exact W.vret hx hb hr (fun t ht hW2 => ⟨rfl, by rw [ht]; exact hW, fun q hq => by rw [ht]; exact hS.2.1 q (Nat.lt_of_lt_of_le hq hbs) (Nat.not_le.mpr hq)⟩) hS.2.2 hd hlk
theorem z_obj {idx a : Nat} {k : zAH → Option (ρ × zAH)} (w1 : Cond.methodLink own idx Lib.objectInit ∈ zWT) (w2 : Cond.instanceMethod Lib.objectInit ∈ zWT) (w3 : Cond.code Lib.objectInit ⟨#[0xb1]⟩ 1 none ∈ zWT) (hF1 : 1 ≤ F) (hL1 : 12 ≤ L) (hd : decode cc pc = .ok (.invokespecial idx, 3)) (he : pc + 3 = q) (hk : zSm g l cc nL own nm ret F L rv q lv [] k) : zSm g l cc nL own nm ret F L rv pc lv [.ref a] k := by
  subst he
  intro h r h' hdn
  obtain ⟨hm, hw⟩ := hk h r h' hdn
  refine ⟨hm, fun p e s m args below meth c H locs ls n0 s0 R E => ?_⟩
  have kk := hw p e s m args below meth c H locs ls n0 s0 R E
  obtain ⟨⟨hx, hb, hml, hown, ht, -⟩, hK, hS, hW, hbs, hl, -, hF, hL, -⟩ := E
  exact W.objInit hx hb hown (ht _ w1) (ht _ w2) (ht _ w3) rfl (by rw [hml]; exact hl.1) rfl hd (Nat.le_trans hF1 hF) (by show 2 * 0 + 0 + 12 ≤ R.locals; omega) kk
/-- behind a call -/
theorem z_run {σ : Type} {rv' : σ → Option Value} {k : σ → zAH → Option (ρ × zAH)} {h h1 h' : zAH} {x : σ} {r : ρ} (hm0 : h.2.1 ≤ h1.2.1 ∧ h.2.2 ≤ h1.2.2) (hdn : k x h1 = some (r, h')) (hk : ∀ x, zSm g l cc nL own nm ret F L rv (pc + 3) lv ((rv' x).toList ++ st) (k x)) (hrv : ∀ x, ((rv' x).toList ++ st).map (zcv g) = (rv' x).toList ++ st.map (zcv g)) {av : Array Value} {stk : List Value}
    {p : Program} {e : Env} {R : Room} {s : State} {m : MethodId} {args : Array Value} {below : List Frame} {meth : Method} {c : Code} {H : Heap} {locs : List Loc} {ls : Array Slot} {n0 s0 : Nat} (E : zEn g cc nL own nm ret F L h h' lv p s m args meth c H locs ls n0 s0 R)
    (hr : va_Run p l e R s m args below meth c H locs (h.2.1 - n0) (h.2.2 - s0) (h1.2.1 - h.2.1) (h1.2.2 - h.2.2) (F0 m pc ls stk) (st.map (zcv g)) (zQ g rv' x h1 av) (zfr g)) :
    W p l e R s m args below meth c H locs (h.2.1 - n0) (h.2.2 - s0) (MQ below (zQ g rv r h') args s (h'.2.1 - n0) (h'.2.2 - s0) (zfr g)) (F0 m pc ls stk) := by
  obtain ⟨hC, hK, hS, hW, hbs, hl, ⟨hn0, hs0⟩, hE⟩ := E
  intro T hT X
  obtain ⟨v, st₀, t, T', L0, e0, X', hL, e1, e2, ⟨hv, hW1, hq⟩, stp⟩ := hr T hT X
  obtain ⟨hm, hw⟩ := hk x h1 r h' hdn
  cases hv
  have hsz : s.heap.size ≤ T'.heap.size := by rw [e1, hW1.1]; have := hS.1; have := hW.1; omega
  have hS1 : va_S (zfr g) s.heap T'.heap (locs ++ L0) := by
    refine ⟨hsz, fun z h1 h2 => ?_, fun z hz => ?_⟩
    · rw [e1, hq z (Nat.not_le.mp h2), e0]
      exact hS.2.1 z h1 h2
    · rcases List.mem_append.mp hz with u | u
      · exact hS.2.2 z u
      · exact hL z u
  have kk := hw p e s m args below meth c T'.heap (locs ++ L0) ls n0 s0 R ⟨hC, hK, hS1, by rw [e1]; exact hW1, hbs, hl, ⟨by omega, by omega⟩, hE⟩
  rw [hrv x] at kk
  have a1 : h.2.1 - n0 + (h1.2.1 - h.2.1) = h1.2.1 - n0 := by omega
  have a2 : h.2.2 - s0 + (h1.2.2 - h.2.2) = h1.2.2 - s0 := by omega
  rw [a1, a2] at X'
  obtain ⟨t2, b1, b2⟩ := kk T' rfl X'
  exact ⟨t2, stp t2 b1, b2⟩
theorem zblind {av : List Value} {h : zAH} : FrameBlind (va_Pc av (fun U => zWd g h U.heap ∧ zKs g U U.heap)) := by
  intro a U f mk ⟨h1, h2, h3⟩
  exact ⟨h1, h2, zKs.blind h3 rfl⟩
theorem zpre {av : List Value} {h : zAH} {s : State} {H : Heap} {locs : List Loc} (hK : zKs g s s.heap) (hS : va_S (zfr g) s.heap H locs) (hW : zWd g h H) : ∀ U : State, U.heap = H → s.WarmedH U.vm → va_Pc (av.map (zcv g)) (fun U => zWd g h U.heap ∧ zKs g U U.heap) ((av.map (zcv g)).toArray) U := by
  intro U hU hWm
  exact ⟨rfl, by rw [hU]; exact hW, zKs.moved hK hWm (fun q h1 h2 => by rw [hU]; exact hS.2.1 q h1 h2)⟩
theorem zgoodin {y : MethodName} {cc' : ByteArray} {n : Nat} {ret' : Option FieldType} (h : Cond.code y cc' n ret' ∈ zWT) : GoodIn zWT (.code y cc' n ret' :: zWT) := by
  intro w hw
  rcases List.mem_cons.mp hw with rfl | hw
  · exact zWT_good _ h
  · exact zWT_good _ hw
theorem z_callV {σ : Type} {y : MethodName} {cc' : ByteArray} {nL' : Nat} {ret' : Option FieldType} {F' L' : Nat} {rv' : σ → Option Value} {a ci idx n : Nat} {As : List Value} {d : zAH → Option (σ × zAH)} {k : σ → zAH → Option (ρ × zAH)} (hC0 : zCt g l y cc' nL' ret' F' L' rv' (.ref a :: As) d) (hm0 : zMv own idx ci y cc' nL' ret' n) (hrec : ∀ h x, d h = some x → ∃ fs, zgO ci a h = some fs) (hn : As.length = n) (hF1 : F' + 1 ≤ F) (hL1 : 8 + (nL' + 11) + L' ≤ L) (hst : (st.map fun v => v.category).sum ≤ 8) (hrv : ∀ x, ((rv' x).toList ++ st).map (zcv g) = (rv' x).toList ++ st.map (zcv g)) (hd : decode cc pc = .ok (.invokevirtual idx, 3)) (he : pc + 3 = q) (hk : ∀ x, zSm g l cc nL own nm ret F L rv q lv ((rv' x).toList ++ st) (k x)) : zSm g l cc nL own nm ret F L rv pc lv (As.reverse ++ .ref a :: st) (fun h => zbd (d h) k) := by
  subst he
  intro h r h' hdn
  obtain ⟨⟨x, h1⟩, hdd, hdn⟩ := Option.bind_eq_some_iff.mp hdn
  obtain ⟨hmm, hMet⟩ := hC0 h x h1 hdd
  obtain ⟨hm, hw⟩ := hk x h1 r h' hdn
  refine ⟨⟨Nat.le_trans hmm.1 hm.1, Nat.le_trans hmm.2 hm.2⟩, fun p e s m args below meth c H locs ls n0 s0 R E => ?_⟩
  have E0 := E
  obtain ⟨⟨hx, hb, hml, hown, ht, -⟩, hK, hS, hW, hbs, hl, ⟨hn0, hs0⟩, hF, hL, hc, hsl⟩ := E0
  obtain ⟨⟨T, N, m1⟩, m2, m3, m4, m5, m6, m7, m8, m9⟩ := hm0
  obtain ⟨fs, ho⟩ := hrec h _ hdd
  obtain ⟨i, rfl, q1, q2⟩ := zgO_at hW ho
  have hstk : (As.reverse ++ .ref (i + 2) :: st).map (zcv g) = (As.map (zcv g)).reverse ++ .ref (zB g + i) :: st.map (zcv g) := by
    rw [List.map_append, List.map_reverse]; rfl
  rw [hstk]
  have hpre := zpre (av := .ref (i + 2) :: As) hK hS hW
  have hcat : ((st.map (zcv g)).map fun v => v.category).sum ≤ 8 := by rw [List.map_map]; simpa [Function.comp_def, zcat] using hst
  have hmm1 := hmm.1; have hmm2 := hmm.2; have hmA := hm.1; have hmB := hm.2
  refine z_run (rv' := rv') hmm hdn hk hrv E (va_runV (As := As.map (zcv g)) (n := n) (bytes := cc') (maxL := nL') (ret := ret') ⟨hx, hb, hml, hown, ht⟩ hMet ⟨callB_of n ht (zgoodin m6) rfl rfl rfl (ht _ m5) (ht _ m2) ⟨m7, m8, m9⟩ ⟨Nat.le_trans hF1 hF, Nat.le_trans hL1 hL⟩, ht _ m3, ht _ m4⟩ ⟨zblind, va_recv hK.1 (zP1 q2) m1 (q0 := 0) rfl, hpre⟩ rfl (by rw [List.length_map]; exact hn) hl.1 rfl (lv_room hcat) hd ⟨by omega, by omega⟩)
theorem z_callS {σ : Type} {y : MethodName} {cc' : ByteArray} {nL' : Nat} {ret' : Option FieldType} {F' L' : Nat} {rv' : σ → Option Value} {idx n : Nat} {As : List Value} {d : zAH → Option (σ × zAH)} {k : σ → zAH → Option (ρ × zAH)} (hC0 : zCt g l y cc' nL' ret' F' L' rv' As d) (hm0 : zMs own idx y cc' nL' ret' n) (hn : As.length = n) (hF1 : F' + 1 ≤ F) (hL1 : 8 + (nL' + 11) + L' ≤ L) (hst : (st.map fun v => v.category).sum ≤ 8) (hrv : ∀ x, ((rv' x).toList ++ st).map (zcv g) = (rv' x).toList ++ st.map (zcv g)) (hd : decode cc pc = .ok (.invokestatic idx, 3)) (he : pc + 3 = q) (hk : ∀ x, zSm g l cc nL own nm ret F L rv q lv ((rv' x).toList ++ st) (k x)) : zSm g l cc nL own nm ret F L rv pc lv (As.reverse ++ st) (fun h => zbd (d h) k) := by
  subst he
  intro h r h' hdn
  obtain ⟨⟨x, h1⟩, hdd, hdn⟩ := Option.bind_eq_some_iff.mp hdn
  obtain ⟨hmm, hMet⟩ := hC0 h x h1 hdd
  obtain ⟨hm, hw⟩ := hk x h1 r h' hdn
  refine ⟨⟨Nat.le_trans hmm.1 hm.1, Nat.le_trans hmm.2 hm.2⟩, fun p e s m args below meth c H locs ls n0 s0 R E => ?_⟩
  have E0 := E
  obtain ⟨⟨hx, hb, hml, hown, ht, -⟩, hK, hS, hW, hbs, hl, ⟨hn0, hs0⟩, hF, hL, hc, hsl⟩ := E0
  obtain ⟨m2, m3, m5, m6, m7, m8, m9⟩ := hm0
  have hstk : (As.reverse ++ st).map (zcv g) = (As.map (zcv g)).reverse ++ st.map (zcv g) := by
    rw [List.map_append, List.map_reverse]
  rw [hstk]
  have hpre := zpre (av := As) hK hS hW
  have hcat : ((st.map (zcv g)).map fun v => v.category).sum ≤ 8 := by rw [List.map_map]; simpa [Function.comp_def, zcat] using hst
  have hmm1 := hmm.1; have hmm2 := hmm.2; have hmA := hm.1; have hmB := hm.2
  refine z_run (rv' := rv') hmm hdn hk hrv E (va_runS (As := As.map (zcv g)) (n := n) (bytes := cc') (maxL := nL') (ret := ret') ⟨hx, hb, hml, hown, ht⟩ hMet ⟨callB_of n ht (zgoodin m6) rfl rfl rfl (ht _ m5) (ht _ m2) ⟨m7, m8, m9⟩ ⟨Nat.le_trans hF1 hF, Nat.le_trans hL1 hL⟩, ht _ m3⟩ ⟨zblind, hpre⟩ rfl (by rw [List.length_map]; exact hn) hl.1 rfl (lv_room hcat) hd ⟨by omega, by omega⟩)
theorem z_callI {y : MethodName} {cc' : ByteArray} {nL' : Nat} {F' L' : Nat} {a ci idx n : Nat} {As : List Value} {d : zAH → Option (Unit × zAH)} {k : Unit → zAH → Option (ρ × zAH)} (hC0 : zCt g l y cc' nL' none F' L' zrV (.ref a :: As) d) (hm0 : zMi own idx y cc' nL' n) (hn : As.length = n) (hF1 : F' + 1 ≤ F) (hL1 : 8 + (nL' + 11) + L' ≤ L) (hst : (st.map fun v => v.category).sum ≤ 8) (hrec : ∀ h x, d h = some x → ∃ fs, zgO ci a h = some fs) (hd : decode cc pc = .ok (.invokespecial idx, 3)) (he : pc + 3 = q) (hk : ∀ x, zSm g l cc nL own nm ret F L rv q lv st (k x)) : zSm g l cc nL own nm ret F L rv pc lv (As.reverse ++ .ref a :: st) (fun h => zbd (d h) k) := by
  subst he
  intro h r h' hdn
  obtain ⟨⟨x, h1⟩, hdd, hdn⟩ := Option.bind_eq_some_iff.mp hdn
  obtain ⟨hmm, hMet⟩ := hC0 h x h1 hdd
  obtain ⟨hm, hw⟩ := hk x h1 r h' hdn
  refine ⟨⟨Nat.le_trans hmm.1 hm.1, Nat.le_trans hmm.2 hm.2⟩, fun p e s m args below meth c H locs ls n0 s0 R E => ?_⟩
  have E0 := E
  obtain ⟨⟨hx, hb, hml, hown, ht, -⟩, hK, hS, hW, hbs, hl, ⟨hn0, hs0⟩, hF, hL, hc, hsl⟩ := E0
  obtain ⟨m2, m3, m5, m6, m6b, m7, m8, m9⟩ := hm0
  obtain ⟨fs, ho⟩ := hrec h _ hdd
  obtain ⟨i, rfl, q1, q2⟩ := zgO_at hW ho
  have hstk : (As.reverse ++ .ref (i + 2) :: st).map (zcv g) = (As.map (zcv g)).reverse ++ .ref (zB g + i) :: st.map (zcv g) := by
    rw [List.map_append, List.map_reverse]; rfl
  rw [hstk]
  have hpre := zpre (av := .ref (i + 2) :: As) hK hS hW
  have hcat : ((st.map (zcv g)).map fun v => v.category).sum ≤ 8 := by rw [List.map_map]; simpa [Function.comp_def, zcat] using hst
  have hmm1 := hmm.1; have hmm2 := hmm.2; have hmA := hm.1; have hmB := hm.2
  refine z_run (rv' := zrV) (av := (Value.ref (zB g + i) :: As.map (zcv g)).toArray) hmm hdn hk (fun _ => rfl) E ?_
  rcases m2 with m2 | ⟨m2, rfl⟩
  · exact va_runI (As := As.map (zcv g)) (n := n) (bytes := cc') (maxL := nL') ⟨hx, hb, hml, hown, ht⟩ hMet ⟨callB_of n ht (zgoodin m6) rfl rfl rfl (ht _ m5) (ht _ m2) ⟨m7, m8, m9⟩ ⟨Nat.le_trans hF1 hF, Nat.le_trans hL1 hL⟩, m6b, ht _ m3⟩ ⟨zblind, hpre⟩ rfl (by rw [List.length_map]; exact hn) hl.1 rfl (lv_room hcat) hd ⟨by omega, by omega⟩
  · have hnw : va_Nw (.methodLinkNest RX4 idx y RX4) s := by
      rcases m2 with ⟨rfl, rfl⟩ | ⟨rfl, rfl⟩
      · exact hK.2.2.2.2.2.2.1
      · exact hK.2.2.2.2.2.2.2.1
    exact va_runIN (As := As.map (zcv g)) (n := n) (bytes := cc') (maxL := nL') (host := RX4) ⟨hx, hb, hml, hown, ht⟩ hMet ⟨va_cnB n ht (zgoodin m6) rfl rfl rfl hnw (ht _ m5) ⟨m7, m8, m9⟩ ⟨Nat.le_trans hF1 hF, Nat.le_trans hL1 hL⟩, m6b, ht _ m3⟩ ⟨zblind, hpre⟩ rfl (by rw [List.length_map]; exact hn) hl.1 rfl (lv_room hcat) hd ⟨by omega, by omega⟩
end zR5
