/-! rules of the heap's instructions -/
theorem zgO_s {ci a : Nat} {h : zAH} {fs : List Value} (ho : zgO ci a h = some fs) : h.1 a = some (.inr (.inr (ci, fs))) := by
  unfold zgO at ho
  split at ho
  · split at ho
    · next hc => cases ho; subst hc; assumption
    · cases ho
  · cases ho
theorem zgO_at {g : zG} {h : zAH} {H : Heap} {ci a : Nat} {fs : List Value} (hW : zWd g h H) (ho : zgO ci a h = some fs) : ∃ i, a = i + 2 ∧ i < h.2.1 ∧ va_at (zD g) zCl (zB g + i, .inr (ci, fs.map (zcv g))) H := by
  have hc := zgO_s ho
  obtain ⟨h1, h2, h3, h4⟩ := hW
  match a, hc with
  | 0, hc => rw [h2] at hc; cases hc
  | 1, hc => rw [h3] at hc; cases hc
  | i + 2, hc =>
    obtain ⟨q1, q2⟩ := h4 i _ hc
    exact ⟨i, rfl, q1, q2⟩
theorem zP1 {g : zG} {H : Heap} {a : Nat} {e : va_E} (h : va_at (zD g) zCl (a, e) H) : va_P (zD g) zCl [(a, e)] H := by
  intro k q hk
  have hz : k < 1 := (List.getElem?_eq_some_iff.mp hk).1
  rw [show k = 0 by omega] at hk
  cases hk
  exact h
def zFl (own : String) (idx ci j : Nat) : Prop := ∃ (C : String) (T : u_T) (N : Nat), zCl[ci]? = some (C, T, N) ∧ (∀ w ∈ u_ws C T N, w ∈ zWT) ∧ j < N ∧ Cond.fieldLink own idx C (T j).2.1 (T j).2.2.1 ∈ zWT ∧ (T j).1 = C
def zPl (own : String) (idx ci j : Nat) (ty : FieldType) (fin : Bool) : Prop := ∃ (C : String) (T : u_T) (N : Nat) (ty0 : Nat → FieldType), zCl[ci]? = some (C, T, N) ∧ (∀ w ∈ u_ws C T N, w ∈ zWT) ∧ j < N ∧ Cond.fieldLink own idx C (T j).2.1 (T j).2.2.1 ∈ zWT ∧ (T j).1 = C ∧ (∀ k, k < N → parseFieldDescriptor (T k).2.2.1 = some (ty0 k)) ∧ (∀ a, a < N → ∀ b, b < N → a ≠ b → (T a).2.1 ≠ (T b).2.1) ∧ (T j).2.2.2 = fin ∧ parseFieldDescriptor (T j).2.2.1 = some ty ∧ (fin = true → C = own)
section zR2
variable {ρ : Type} {g : zG} {l : Launch} {cc : ByteArray} {nL : Nat} {own nm : String} {ret : Option FieldType} {F L : Nat} {rv : ρ → Option Value} {pc q t : Nat} {lv lv' : List (Nat × Value)} {st : List Value}
theorem z_getV {ci j a idx : Nat} {v : Value} {fs : List Value} {h h' : zAH} (hf : zFl own idx ci j) (ho : zgO ci a h = some fs) (hv : fs[j]? = some v) (hd : decode cc pc = .ok (.getfield idx, 3))
    {p : Program} {e : Env} {R : Room} {s : State} {m : MethodId} {args : Array Value} {below : List Frame} {meth : Method} {c : Code} {H : Heap} {locs : List Loc} {ls : Array Slot} {n0 s0 cells slots : Nat} {Q : State → Prop} (E : zEn g cc nL own nm ret F L h h' lv p s m args meth c H locs ls n0 s0 R)
    (kk : W p l e R s m args below meth c H locs cells slots Q (F0 m (pc + 3) ls ((v :: st).map (zcv g)))) : W p l e R s m args below meth c H locs cells slots Q (F0 m pc ls ((.ref a :: st).map (zcv g))) := by
  obtain ⟨⟨hx, hb, -, hown, ht, -⟩, hK, -, hW, -⟩ := E
  obtain ⟨C, T, N, f1, f2, f3, f4, f5⟩ := hf
  obtain ⟨i, rfl, q1, q2⟩ := zgO_at hW ho
  exact va_get (D := zD g) (cl := zCl) (ci := ci) hx hb ht f2 hown hK.1 (zP1 q2) 0 rfl f1 j f3 (ht _ f4) (fun x hx => by rw [f5] at hx; exact hx) (by rw [List.getElem?_map, hv]; rfl) hd kk
theorem z_getI {ci j a idx : Nat} {k : Int32 → zAH → Option (ρ × zAH)} (hf : zFl own idx ci j) (hd : decode cc pc = .ok (.getfield idx, 3)) (he : pc + 3 = q) (hk : ∀ x, zSm g l cc nL own nm ret F L rv q lv (.int x :: st) (k x)) : zSm g l cc nL own nm ret F L rv pc lv (.ref a :: st) (fun h => (zgI ci j a h).bind fun x => k x h) := by
  subst he
  intro h r h' hdn
  obtain ⟨x, hg, hdn⟩ := Option.bind_eq_some_iff.mp hdn
  obtain ⟨fs, ho, hv⟩ := Option.bind_eq_some_iff.mp hg
  obtain ⟨hm, hw⟩ := hk x h r h' hdn
  refine ⟨hm, fun p e s m args below meth c H locs ls n0 s0 R E => z_getV hf ho (v := .int x) ?_ hd E (hw p e s m args below meth c H locs ls n0 s0 R E)⟩
  unfold zvI at hv
  split at hv
  · cases hv; assumption
  · cases hv
theorem z_getL {ci j a idx : Nat} {k : Int64 → zAH → Option (ρ × zAH)} (hf : zFl own idx ci j) (hd : decode cc pc = .ok (.getfield idx, 3)) (he : pc + 3 = q) (hk : ∀ x, zSm g l cc nL own nm ret F L rv q lv (.long x :: st) (k x)) : zSm g l cc nL own nm ret F L rv pc lv (.ref a :: st) (fun h => (zgL ci j a h).bind fun x => k x h) := by
  subst he
  intro h r h' hdn
  obtain ⟨x, hg, hdn⟩ := Option.bind_eq_some_iff.mp hdn
  obtain ⟨fs, ho, hv⟩ := Option.bind_eq_some_iff.mp hg
  obtain ⟨hm, hw⟩ := hk x h r h' hdn
  refine ⟨hm, fun p e s m args below meth c H locs ls n0 s0 R E => z_getV hf ho (v := .long x) ?_ hd E (hw p e s m args below meth c H locs ls n0 s0 R E)⟩
  unfold zvL at hv
  split at hv
  · cases hv; assumption
  · cases hv
theorem z_getA {ci j a idx : Nat} {k : Nat → zAH → Option (ρ × zAH)} (hf : zFl own idx ci j) (hd : decode cc pc = .ok (.getfield idx, 3)) (he : pc + 3 = q) (hk : ∀ x, zSm g l cc nL own nm ret F L rv q lv (.ref x :: st) (k x)) : zSm g l cc nL own nm ret F L rv pc lv (.ref a :: st) (fun h => (zgA ci j a h).bind fun x => k x h) := by
  subst he
  intro h r h' hdn
  obtain ⟨x, hg, hdn⟩ := Option.bind_eq_some_iff.mp hdn
  obtain ⟨fs, ho, hv⟩ := Option.bind_eq_some_iff.mp hg
  obtain ⟨hm, hw⟩ := hk x h r h' hdn
  refine ⟨hm, fun p e s m args below meth c H locs ls n0 s0 R E => z_getV hf ho (v := .ref x) ?_ hd E (hw p e s m args below meth c H locs ls n0 s0 R E)⟩
  unfold zvA at hv
  split at hv
  · cases hv; assumption
  · cases hv
/-- a cell of the world is written -/
theorem zWd.up {h : zAH} {H H1 : Heap} {i : Nat} {c c0 : zAC} (hW : zWd g h H) (h0 : h.1 (i + 2) = some c0) (hz : H1.size = H.size) (hc : va_at (zD g) zCl (zB g + i, zcE g c) H1) (oq : ∀ q : Nat, q ≠ zB g + i → H1[q]? = H[q]?) : zWd g (zup h (i + 2) c) H1 := by
  obtain ⟨h1, h2, h3, h4⟩ := hW
  refine ⟨hz.trans h1, ?_, ?_, fun j c1 hj => ?_⟩
  · show va_up h.1 (i + 2) (some c) 0 = _
    rw [va_up, if_neg (by omega)]; exact h2
  · show va_up h.1 (i + 2) (some c) 1 = _
    rw [va_up, if_neg (by omega)]; exact h3
  · replace hj : va_up h.1 (i + 2) (some c) (j + 2) = some c1 := hj
    by_cases hij : j = i
    · subst hij
      rw [va_up, if_pos rfl] at hj
      cases hj
      exact ⟨(h4 j c0 h0).1, hc⟩
    · rw [va_up, if_neg (by omega)] at hj
      obtain ⟨q1, q2⟩ := h4 j c1 hj
      exact ⟨q1, q2.kept (oq _ (by show zB g + j ≠ zB g + i; omega))⟩
/-- a cell comes to the world -/
theorem zWd.new {h : zAH} {H H1 : Heap} {c : zAC} {w : Nat} (hW : zWd g h H) (hz : H1.size = H.size + 1) (hc : va_at (zD g) zCl (H.size, zcE g c) H1) (oq : ∀ q : Nat, q < H.size → H1[q]? = H[q]?) : zWd g (znew c w h) H1 := by
  obtain ⟨h1, h2, h3, h4⟩ := hW
  refine ⟨?_, ?_, ?_, fun j c1 hj => ?_⟩
  · show H1.size = zB g + (h.2.1 + 1)
    omega
  · show va_up h.1 (h.2.1 + 2) (some c) 0 = _
    rw [va_up, if_neg (by omega)]; exact h2
  · show va_up h.1 (h.2.1 + 2) (some c) 1 = _
    rw [va_up, if_neg (by omega)]; exact h3
  · replace hj : va_up h.1 (h.2.1 + 2) (some c) (j + 2) = some c1 := hj
    by_cases hij : j = h.2.1
    · subst hij
      rw [va_up, if_pos rfl] at hj
      cases hj
      exact ⟨Nat.lt_succ_self _, by rw [← h1]; exact hc⟩
    · rw [va_up, if_neg (by omega)] at hj
      obtain ⟨q1, q2⟩ := h4 j c1 hj
      exact ⟨Nat.lt_succ_of_lt q1, q2.kept (oq _ (by show zB g + j < H.size; omega))⟩
theorem z_putV {ci j a idx : Nat} {ty : FieldType} {fin : Bool} {v : Value} {k : zAH → Option (ρ × zAH)} (hf : zPl own idx ci j ty fin) (hfin : fin = true → nm = "<init>") (hn : narrow ty (zcv g v) = zcv g v) (hfit : fits ty (zcv g v) = true) (hd : decode cc pc = .ok (.putfield idx, 3)) (he : pc + 3 = q) (hk : zSm g l cc nL own nm ret F L rv q lv st k) : zSm g l cc nL own nm ret F L rv pc lv (v :: .ref a :: st) (fun h => (zpF ci j a v h).bind fun h1 => k h1) := by
  subst he
  intro h r h' hdn
  obtain ⟨h1, hg, hdn⟩ := Option.bind_eq_some_iff.mp hdn
  unfold zpF at hg
  split at hg
  · cases hg
  · obtain ⟨fs, ho, hv⟩ := Option.bind_eq_some_iff.mp hg
    split at hv
    · next hjl =>
      cases hv
      obtain ⟨hm, hw⟩ := hk _ r h' hdn
      refine ⟨hm, fun p e s m args below meth c H locs ls n0 s0 R E => ?_⟩
      obtain ⟨hC, hK, hS, hW, hbs, hE⟩ := E
      obtain ⟨C, T, N, ty0, f1, f2, f3, f4, f5, f6, f7, f8, f9, f10⟩ := hf
      obtain ⟨i, rfl, q1, q2⟩ := zgO_at hW ho
      have hc0 := zgO_s ho
      have go : ∀ (H1 : Heap), H1.size = H.size → va_at (zD g) zCl (zB g + i, .inr (ci, (fs.map (zcv g)).set j (zcv g v))) H1 → (∀ q : Nat, q ≠ zB g + i → H1[q]? = H[q]?) → ∀ sl : Nat, W p l e R s m args below meth c H1 (locs ++ [⟨zB g + i, sl⟩]) (h.2.1 - n0) (h.2.2 - s0) (MQ below (zQ g rv r h') args s (h'.2.1 - n0) (h'.2.2 - s0) (zfr g)) (F0 m (pc + 3) ls (st.map (zcv g))) := by
        intro H1 z1 c1 o1 sl
        exact hw p e s m args below meth c H1 _ ls n0 s0 R ⟨hC, hK, hS.put z1 o1 (Nat.le_add_right _ _), zWd.up hW hc0 z1 (by show va_at _ _ (_, .inr (ci, (fs.set j v).map (zcv g))) H1; rw [List.map_set]; exact c1) o1, hbs, hE⟩
      obtain ⟨hx, hb, -, hown, ht, -, -, hnm⟩ := hC
      have hap := va_apart (own := own) ht f2 ty0 f6 f7 hK.1 f1
      obtain ⟨r0, g1, cell, c1, c2, c3, c4⟩ := q2
      have hr : r0 = (C, T, N) := Option.some.inj (g1.symm.trans f1)
      subst hr
      obtain ⟨hSl, hfc, kC, hkC, hkind⟩ := hK.1.1 ci _ f1
      obtain ⟨cf, kf, fi, fd, hi, hsl⟩ := hSl j f3
      have hst := (u_facts hfc hkC (u_lays ht f2 f3) hi).1
      have hlay := ht _ (f2 _ (u_in_lay f3))
      have fin2 : ∀ H' : Heap, H'[zB g + i]? = some (cell.setSlot fd.slot (zcv g v)) → va_at (zD g) zCl (zB g + i, .inr (ci, (fs.map (zcv g)).set j (zcv g v))) H' := by
        intro H' e1
        rw [hsl] at e1
        exact ⟨_, f1, t_OB.to (V := updV (vp_V (fs.map (zcv g))) j (zcv g v)) ⟨_, e1, c2, c3, t_set c4 hap f3 (zcv g v)⟩ (fun k _ => vp_updV_set (by rw [List.length_map]; exact hjl) (zcv g v) k)⟩
      unfold u_lay at hlay
      cases fin with
      | false =>
        rw [if_neg (by rw [f8]; decide)] at hlay
        have h6 := u_store hfc hkC hkind hlay hi f9 hn hfit
        exact W.putK hx hb (f := fd) ⟨hown, ht _ f4, ⟨_, _, _, by rw [f5] at hi; exact hi⟩, hst⟩ (by rw [c2]; exact h6) c1 c3 (by rw [hsl]; exact k2_hasslot (c4 j f3)) rfl rfl hd fun H' e1 e2 e3 => go H' e2 (fin2 H' e1) e3 _
      | true =>
        rw [if_pos f8] at hlay
        have hcf : m.cls = cf := by
          obtain ⟨_, _, c', _, _, _, -, -, hf', -, -, -, hown2, -⟩ := Cond.laysFinal_spec hlay
          have e1 : c' = cf := by have := hi.symm.trans hf'; simp at this; exact this.1.symm
          rw [f5, f10 rfl] at hown2
          rw [← e1]; exact Option.some.inj (hown.symm.trans hown2)
        have h6 := u_fits hfc hkC hkind (Or.inr hlay) hi f9 hn hfit
        exact W.putFinK hx hb hown (ht _ f4) (by rw [f5] at hi; exact hi) hst hcf (hnm.trans (hfin rfl)) (by rw [c2]; exact h6) c1 c3 (by rw [hsl]; exact k2_hasslot (c4 j f3)) rfl rfl hd fun H' e1 e2 e3 => go H' e2 (fin2 H' e1) e3 _
    · cases hv
end zR2
