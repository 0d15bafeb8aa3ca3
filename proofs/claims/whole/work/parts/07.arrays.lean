/-! rules of arrays, of what is made, of returns -/
section zR3
variable {ρ : Type} {g : zG} {l : Launch} {cc : ByteArray} {nL : Nat} {own nm : String} {ret : Option FieldType} {F L : Nat} {rv : ρ → Option Value} {pc q t : Nat} {lv lv' : List (Nat × Value)} {st : List Value}
theorem zaI_s {kd a : Nat} {i x : Int32} {h : zAH} (hg : zaI kd a i h = some x) : ∃ n f, h.1 a = some (.inl (kd, n, f)) ∧ vp_in i n ∧ x = f i.toNatClampNeg := by
  unfold zaI at hg
  split at hg
  · next n f hc =>
    split at hg
    · next hk =>
      subst hk
      split at hg
      · cases hg
      · next hi => cases hg; exact ⟨_, _, hc, hi, rfl⟩
    · cases hg
  · cases hg
theorem z_iald {kd a : Nat} {i : Int32} {op : Instr} {k : Int32 → zAH → Option (ρ × zAH)} (hkd : (kd = 0 ∧ op = .iaload) ∨ (kd = 1 ∧ op = .baload) ∨ (kd = 2 ∧ op = .baload)) (hd : decode cc pc = .ok (op, 1)) (he : pc + 1 = q) (hk : ∀ x, zSm g l cc nL own nm ret F L rv q lv (.int x :: st) (k x)) : zSm g l cc nL own nm ret F L rv pc lv (.int i :: .ref a :: st) (fun h => (zaI kd a i h).bind fun x => k x h) := by
  subst he
  intro h r h' hdn
  obtain ⟨x, hg, hdn⟩ := Option.bind_eq_some_iff.mp hdn
  obtain ⟨n, f, hc, hin, hx0⟩ := zaI_s hg
  subst hx0
  obtain ⟨hm, hw⟩ := hk _ h r h' hdn
  refine ⟨hm, fun p e s m args below meth c H locs ls n0 s0 R E => ?_⟩
  have kk := hw p e s m args below meth c H locs ls n0 s0 R E
  obtain ⟨⟨hx, hb, -, hown, ht, -⟩, hK, hS, hW, hbs, -⟩ := E
  obtain ⟨h1, h2, h3, h4⟩ := hW
  have hout : ∀ z : Nat, z < s.heap.size → ¬ zfr g z → H[z]? = s.heap[z]? := hS.2.1
  match a, hc with
  | 0, hc =>
    rw [h2] at hc
    cases hc
    rcases hkd with ⟨-, rfl⟩ | ⟨hz, -⟩ | ⟨hz, -⟩
    · obtain ⟨cell, t1, t2, t3, t4, t5, t6, t7⟩ := hK.2.2.1
      have hlt : i.toNatClampNeg < 4 := Nat.not_le.mp fun z => hin (Or.inr z)
      exact W.iald (v := .int (zBch i.toNatClampNeg)) hx hb ((hout _ (Array.getElem?_eq_some_iff.mp t1).1 t7).trans t1) t2 t3 (fun z => z.elim (fun w => hin (Or.inl w)) (fun w => by omega)) (t6 _ hlt) rfl rfl hd kk
    · cases hz
    · cases hz
  | 1, hc =>
    rw [h3] at hc
    cases hc
    rcases hkd with ⟨-, rfl⟩ | ⟨hz, -⟩ | ⟨hz, -⟩
    · obtain ⟨scr, t1, t2, t3, t4, t5⟩ := hK.2.2.2.1
      have hlt : i.toNatClampNeg < zLn g := Nat.not_le.mp fun z => hin (Or.inr z)
      exact W.iald (v := .int (zXs g i.toNatClampNeg)) hx hb ((hout _ (Array.getElem?_eq_some_iff.mp t1).1 (Nat.not_le.mpr hK.2.2.2.2.1)).trans t1) t2 t3 (by rw [t4]; exact hin) (t5 _ hlt) rfl rfl hd kk
    · cases hz
    · cases hz
  | j + 2, hc =>
    obtain ⟨-, q2⟩ := h4 j _ hc
    rcases hkd with ⟨rfl, rfl⟩ | ⟨rfl, rfl⟩ | ⟨rfl, rfl⟩
    · exact va_iald hx hb hK.1 (zP1 q2) 0 0 rfl rfl hin hd kk
    · exact va_bald hx hb hK.1 (zP1 q2) 0 1 rfl rfl hin hd kk
    · exact va_zald hx hb hK.1 (zP1 q2) 0 2 rfl rfl hin hd kk
theorem z_alen {a : Nat} {k : Int32 → zAH → Option (ρ × zAH)} (hd : decode cc pc = .ok (.arraylength, 1)) (he : pc + 1 = q) (hk : ∀ x, zSm g l cc nL own nm ret F L rv q lv (.int x :: st) (k x)) : zSm g l cc nL own nm ret F L rv pc lv (.ref a :: st) (fun h => (zaN a h).bind fun x => k x h) := by
  subst he
  intro h r h' hdn
  obtain ⟨x, hg, hdn⟩ := Option.bind_eq_some_iff.mp hdn
  obtain ⟨hm, hw⟩ := hk _ h r h' hdn
  refine ⟨hm, fun p e s m args below meth c H locs ls n0 s0 R E => ?_⟩
  have kk := hw p e s m args below meth c H locs ls n0 s0 R E
  obtain ⟨⟨hx, hb, -, hown, ht, -⟩, hK, hS, hW, hbs, -⟩ := E
  obtain ⟨h1, h2, h3, h4⟩ := hW
  have hout : ∀ z : Nat, z < s.heap.size → ¬ zfr g z → H[z]? = s.heap[z]? := hS.2.1
  unfold zaN at hg
  match a, hg with
  | 0, hg =>
    rw [h2] at hg
    cases hg
    obtain ⟨cell, t1, t2, t3, t4, t5, t6, t7⟩ := hK.2.2.1
    exact W.alen (n := Int32.ofNat 4) hx hb ((hout _ (Array.getElem?_eq_some_iff.mp t1).1 t7).trans t1) t2 t5 rfl rfl hd kk
  | 1, hg =>
    rw [h3] at hg
    cases hg
    obtain ⟨scr, t1, t2, t3, t4, t5⟩ := hK.2.2.2.1
    exact W.alen (n := Int32.ofNat (zLn g)) hx hb ((hout _ (Array.getElem?_eq_some_iff.mp t1).1 (Nat.not_le.mpr hK.2.2.2.2.1)).trans t1) t2 (by rw [t4] <;> rfl) rfl rfl hd kk
  | j + 2, hg =>
    split at hg
    · next kd n f hc =>
      split at hg
      · next hk3 =>
        cases hg
        obtain ⟨-, q2⟩ := h4 j _ hc
        match kd, hk3, q2 with
        | 0, _, q2 => exact va_alen hx hb hK.1 (zP1 q2) 0 0 rfl rfl rfl hd kk
        | 1, _, q2 => exact va_alen hx hb hK.1 (zP1 q2) 0 1 rfl rfl rfl hd kk
        | 2, _, q2 => exact va_alen hx hb hK.1 (zP1 q2) 0 2 rfl rfl rfl hd kk
      · cases hg
    · next kd n f hc =>
      split at hg
      · next hk3 =>
        cases hg
        obtain ⟨-, q2⟩ := h4 j _ hc
        rcases hk3 with rfl | rfl
        · exact va_alen hx hb hK.1 (zP1 q2) 0 3 rfl rfl rfl hd kk
        · exact va_alen hx hb hK.1 (zP1 q2) 0 4 rfl rfl rfl hd kk
      · cases hg
    · cases hg
theorem z_iast {kd a : Nat} {i x x' : Int32} {op : Instr} {k : zAH → Option (ρ × zAH)} (hkd : (kd = 0 ∧ op = .iastore ∧ x' = x) ∨ (kd = 1 ∧ op = .bastore ∧ x' = x.toInt8.toInt32) ∨ (kd = 2 ∧ op = .bastore ∧ x' = x &&& 1)) (hd : decode cc pc = .ok (op, 1)) (he : pc + 1 = q) (hk : zSm g l cc nL own nm ret F L rv q lv st k) : zSm g l cc nL own nm ret F L rv pc lv (.int x :: .int i :: .ref a :: st) (fun h => (zaS kd a i x' h).bind fun h1 => k h1) := by
  subst he
  intro h r h' hdn
  obtain ⟨h1, hg, hdn⟩ := Option.bind_eq_some_iff.mp hdn
  unfold zaS at hg
  split at hg
  · cases hg
  · next ha2 =>
    split at hg
    · next kd' n f hc =>
      split at hg
      · next hk' =>
        subst hk'
        split at hg
        · cases hg
        · next hin =>
          cases hg
          obtain ⟨hm, hw⟩ := hk _ r h' hdn
          refine ⟨hm, fun p e s m args below meth c H locs ls n0 s0 R E => ?_⟩
          obtain ⟨hC, hK, hS, hW, hbs, hE⟩ := E
          obtain ⟨j, rfl⟩ : ∃ j, a = j + 2 := ⟨a - 2, by omega⟩
          obtain ⟨q1, q2⟩ := hW.2.2.2 j _ hc
          have go : ∀ (H1 : Heap), H1[zB g + j]? = some (vp_cell (zcA g kd') (n, .inl (upd f i.toNatClampNeg x'))) → H1.size = H.size → (∀ q : Nat, q ≠ zB g + j → H1[q]? = H[q]?) → ∀ sl : Nat, W p l e R s m args below meth c H1 (locs ++ [⟨zB g + j, sl⟩]) (h.2.1 - n0) (h.2.2 - s0) (MQ below (zQ g rv r h') args s (h'.2.1 - n0) (h'.2.2 - s0) (zfr g)) (F0 m (pc + 1) ls (st.map (zcv g))) := by
            intro H1 e1 z1 o1 sl
            exact hw p e s m args below meth c H1 _ ls n0 s0 R ⟨hC, hK, hS.put z1 o1 (Nat.le_add_right _ _), zWd.up hW hc z1 e1 o1, hbs, hE⟩
          have hst : ∀ v : Value, v = .int x' → (arrV (zcA g kd') n (fun j => .int (f j))).setSlot i.toNatClampNeg v = vp_cell (zcA g kd') (n, .inl (upd f i.toNatClampNeg x')) := by
            intro v hv
            rw [vp_cell_i, arrV_store]
            congr 1
            funext z
            by_cases hz : z = i.toNatClampNeg
            · subst hz; simp [updV, upd, hv]
            · simp [updV, upd, hz]
          obtain ⟨hx, hb, -, hown, ht, -⟩ := hC
          have q3 : H[zB g + j]? = some (arrV (zcA g kd') n (fun j => .int (f j))) := q2
          have hin' : ¬ (i < 0 ∨ (arrV (zcA g kd') n (fun j => .int (f j))).slots.size ≤ i.toNatClampNeg) := by rw [arrV_size]; exact hin
          rcases hkd with ⟨rfl, rfl, hx'⟩ | ⟨rfl, rfl, hx'⟩ | ⟨rfl, rfl, hx'⟩
          · exact W.iast hx hb q3 ((hK.1.2 0 _ rfl).1 n _) (fun z => by cases z) hin' rfl rfl hd fun H1 e1 z1 o1 => go H1 (by rw [e1, hst _ (by rw [hx'])]) z1 o1 _
          · exact W.bast hx hb q3 ((hK.1.2 1 _ rfl).1 n _) (fun z => by cases z) hin' rfl rfl hd fun H1 e1 z1 o1 => go H1 (by rw [e1, hst _ (by rw [hx', narrow_byte])]) z1 o1 _
          · exact W.zast hx hb q3 ((hK.1.2 2 _ rfl).1 n _) (fun z => by cases z) hin' rfl rfl hd fun H1 e1 z1 o1 => go H1 (by rw [e1, hst _ (by rw [hx']; rfl)]) z1 o1 _
      · cases hg
    · cases hg
theorem z_aald {kd a : Nat} {i : Int32} {k : Nat → zAH → Option (ρ × zAH)} (hkd : kd = 3 ∨ kd = 4) (hd : decode cc pc = .ok (.aaload, 1)) (he : pc + 1 = q) (hk : ∀ x, zSm g l cc nL own nm ret F L rv q lv (.ref x :: st) (k x)) : zSm g l cc nL own nm ret F L rv pc lv (.int i :: .ref a :: st) (fun h => (zaR kd a i h).bind fun x => k x h) := by
  subst he
  intro h r h' hdn
  obtain ⟨x, hg, hdn⟩ := Option.bind_eq_some_iff.mp hdn
  obtain ⟨hm, hw⟩ := hk _ h r h' hdn
  refine ⟨hm, fun p e s m args below meth c H locs ls n0 s0 R E => ?_⟩
  have kk := hw p e s m args below meth c H locs ls n0 s0 R E
  obtain ⟨⟨hx, hb, -, hown, ht, -⟩, hK, hS, hW, hbs, -⟩ := E
  obtain ⟨h1, h2, h3, h4⟩ := hW
  unfold zaR at hg
  split at hg
  · next kd' n f hc =>
    split at hg
    · next hk' =>
      subst hk'
      split at hg
      · cases hg
      · next hin =>
        match a, hc with
        | 0, hc => rw [h2] at hc; cases hc
        | 1, hc => rw [h3] at hc; cases hc
        | j + 2, hc =>
          obtain ⟨-, q2⟩ := h4 j _ hc
          have e1 : va_rf ((fun j => (f j).map (zca g)) i.toNatClampNeg) = zcv g (.ref x) := by
            show va_rf ((f i.toNatClampNeg).map (zca g)) = _
            rw [hg]; rfl
          rcases hkd with rfl | rfl
          · refine va_aldq hx hb hK.1 (zP1 q2) 0 3 (C := RX3) rfl rfl hin hd ?_
            rw [e1]; exact kk
          · refine va_aldq hx hb hK.1 (zP1 q2) 0 4 (C := RX1) rfl rfl hin hd ?_
            rw [e1]; exact kk
    · cases hg
  · cases hg
end zR3
