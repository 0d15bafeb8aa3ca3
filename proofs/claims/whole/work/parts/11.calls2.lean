section zR7
variable {ρ : Type} {g : zG} {l : Launch} {cc : ByteArray} {nL : Nat} {own nm : String} {ret : Option FieldType} {F L : Nat} {rv : ρ → Option Value} {pc q t : Nat} {lv lv' : List (Nat × Value)} {st : List Value}
theorem z_callVI {y : MethodName} {cc' : ByteArray} {nL' : Nat} {ret' : Option FieldType} {F' L' : Nat} {a ci idx n : Nat} {As stk : List Value} {d : zAH → Option (Int32 × zAH)} {k : Int32 → zAH → Option (ρ × zAH)} (hC0 : zCt g l y cc' nL' ret' F' L' zrI (.ref a :: As) d) (hm0 : zMv own idx ci y cc' nL' ret' n) (hrec : ∀ h x, d h = some x → ∃ fs, zgO ci a h = some fs) (hn : As.length = n) (hF1 : F' + 1 ≤ F) (hL1 : 8 + (nL' + 11) + L' ≤ L) (hst : (st.map fun v => v.category).sum ≤ 8) (hstk : As.reverse ++ .ref a :: st = stk) (hd : decode cc pc = .ok (.invokevirtual idx, 3)) (he : pc + 3 = q) (hk : ∀ x, zSm g l cc nL own nm ret F L rv q lv (.int x :: st) (k x)) : zSm g l cc nL own nm ret F L rv pc lv stk (fun h => zbd (d h) k) := by
  subst hstk
  exact z_callV hC0 hm0 hrec hn hF1 hL1 hst (fun _ => rfl) hd he hk
theorem z_callSI {y : MethodName} {cc' : ByteArray} {nL' : Nat} {ret' : Option FieldType} {F' L' : Nat} {idx n : Nat} {As stk : List Value} {d : zAH → Option (Int32 × zAH)} {k : Int32 → zAH → Option (ρ × zAH)} (hC0 : zCt g l y cc' nL' ret' F' L' zrI As d) (hm0 : zMs own idx y cc' nL' ret' n) (hn : As.length = n) (hF1 : F' + 1 ≤ F) (hL1 : 8 + (nL' + 11) + L' ≤ L) (hst : (st.map fun v => v.category).sum ≤ 8) (hstk : As.reverse ++ st = stk) (hd : decode cc pc = .ok (.invokestatic idx, 3)) (he : pc + 3 = q) (hk : ∀ x, zSm g l cc nL own nm ret F L rv q lv (.int x :: st) (k x)) : zSm g l cc nL own nm ret F L rv pc lv stk (fun h => zbd (d h) k) := by
  subst hstk
  exact z_callS hC0 hm0 hn hF1 hL1 hst (fun _ => rfl) hd he hk
theorem z_callVL {y : MethodName} {cc' : ByteArray} {nL' : Nat} {ret' : Option FieldType} {F' L' : Nat} {a ci idx n : Nat} {As stk : List Value} {d : zAH → Option (Int64 × zAH)} {k : Int64 → zAH → Option (ρ × zAH)} (hC0 : zCt g l y cc' nL' ret' F' L' zrL (.ref a :: As) d) (hm0 : zMv own idx ci y cc' nL' ret' n) (hrec : ∀ h x, d h = some x → ∃ fs, zgO ci a h = some fs) (hn : As.length = n) (hF1 : F' + 1 ≤ F) (hL1 : 8 + (nL' + 11) + L' ≤ L) (hst : (st.map fun v => v.category).sum ≤ 8) (hstk : As.reverse ++ .ref a :: st = stk) (hd : decode cc pc = .ok (.invokevirtual idx, 3)) (he : pc + 3 = q) (hk : ∀ x, zSm g l cc nL own nm ret F L rv q lv (.long x :: st) (k x)) : zSm g l cc nL own nm ret F L rv pc lv stk (fun h => zbd (d h) k) := by
  subst hstk
  exact z_callV hC0 hm0 hrec hn hF1 hL1 hst (fun _ => rfl) hd he hk
theorem z_callSL {y : MethodName} {cc' : ByteArray} {nL' : Nat} {ret' : Option FieldType} {F' L' : Nat} {idx n : Nat} {As stk : List Value} {d : zAH → Option (Int64 × zAH)} {k : Int64 → zAH → Option (ρ × zAH)} (hC0 : zCt g l y cc' nL' ret' F' L' zrL As d) (hm0 : zMs own idx y cc' nL' ret' n) (hn : As.length = n) (hF1 : F' + 1 ≤ F) (hL1 : 8 + (nL' + 11) + L' ≤ L) (hst : (st.map fun v => v.category).sum ≤ 8) (hstk : As.reverse ++ st = stk) (hd : decode cc pc = .ok (.invokestatic idx, 3)) (he : pc + 3 = q) (hk : ∀ x, zSm g l cc nL own nm ret F L rv q lv (.long x :: st) (k x)) : zSm g l cc nL own nm ret F L rv pc lv stk (fun h => zbd (d h) k) := by
  subst hstk
  exact z_callS hC0 hm0 hn hF1 hL1 hst (fun _ => rfl) hd he hk
theorem z_callVU {y : MethodName} {cc' : ByteArray} {nL' : Nat} {ret' : Option FieldType} {F' L' : Nat} {a ci idx n : Nat} {As stk : List Value} {d : zAH → Option (Unit × zAH)} {k : Unit → zAH → Option (ρ × zAH)} (hC0 : zCt g l y cc' nL' ret' F' L' zrV (.ref a :: As) d) (hm0 : zMv own idx ci y cc' nL' ret' n) (hrec : ∀ h x, d h = some x → ∃ fs, zgO ci a h = some fs) (hn : As.length = n) (hF1 : F' + 1 ≤ F) (hL1 : 8 + (nL' + 11) + L' ≤ L) (hst : (st.map fun v => v.category).sum ≤ 8) (hstk : As.reverse ++ .ref a :: st = stk) (hd : decode cc pc = .ok (.invokevirtual idx, 3)) (he : pc + 3 = q) (hk : ∀ x, zSm g l cc nL own nm ret F L rv q lv (st) (k x)) : zSm g l cc nL own nm ret F L rv pc lv stk (fun h => zbd (d h) k) := by
  subst hstk
  exact z_callV hC0 hm0 hrec hn hF1 hL1 hst (fun _ => rfl) hd he hk
theorem z_callSU {y : MethodName} {cc' : ByteArray} {nL' : Nat} {ret' : Option FieldType} {F' L' : Nat} {idx n : Nat} {As stk : List Value} {d : zAH → Option (Unit × zAH)} {k : Unit → zAH → Option (ρ × zAH)} (hC0 : zCt g l y cc' nL' ret' F' L' zrV As d) (hm0 : zMs own idx y cc' nL' ret' n) (hn : As.length = n) (hF1 : F' + 1 ≤ F) (hL1 : 8 + (nL' + 11) + L' ≤ L) (hst : (st.map fun v => v.category).sum ≤ 8) (hstk : As.reverse ++ st = stk) (hd : decode cc pc = .ok (.invokestatic idx, 3)) (he : pc + 3 = q) (hk : ∀ x, zSm g l cc nL own nm ret F L rv q lv (st) (k x)) : zSm g l cc nL own nm ret F L rv pc lv stk (fun h => zbd (d h) k) := by
  subst hstk
  exact z_callS hC0 hm0 hn hF1 hL1 hst (fun _ => rfl) hd he hk
theorem z_callC {y : MethodName} {cc' : ByteArray} {nL' : Nat} {F' L' : Nat} {a ci idx n : Nat} {As stk : List Value} {d : zAH → Option (Unit × zAH)} {k : Unit → zAH → Option (ρ × zAH)} (hC0 : zCt g l y cc' nL' none F' L' zrV (.ref a :: As) d) (hm0 : zMi own idx y cc' nL' n) (hrec : ∀ h x, d h = some x → ∃ fs, zgO ci a h = some fs) (hn : As.length = n) (hF1 : F' + 1 ≤ F) (hL1 : 8 + (nL' + 11) + L' ≤ L) (hst : (st.map fun v => v.category).sum ≤ 8) (hstk : As.reverse ++ .ref a :: st = stk) (hd : decode cc pc = .ok (.invokespecial idx, 3)) (he : pc + 3 = q) (hk : ∀ x, zSm g l cc nL own nm ret F L rv q lv st (k x)) : zSm g l cc nL own nm ret F L rv pc lv stk (fun h => zbd (d h) k) := by
  subst hstk
  exact z_callI hC0 hm0 hn hF1 hL1 hst hrec hd he hk
theorem z_rec {ci a : Nat} {k : zAH → Option (ρ × zAH)} (hk : zSm g l cc nL own nm ret F L rv pc lv st k) : zSm g l cc nL own nm ret F L rv pc lv st (fun h => (zgO ci a h).bind fun _ => k h) := by
  intro h r h' hdn
  obtain ⟨_, -, hdn⟩ := Option.bind_eq_some_iff.mp hdn
  exact hk h r h' hdn
theorem z_case {c : Prop} {hcd : Decidable c} {k1 k2 : zAH → Option (ρ × zAH)} (h1 : c → zSm g l cc nL own nm ret F L rv pc lv st k1) (h2 : ¬ c → zSm g l cc nL own nm ret F L rv pc lv st k2) : zSm g l cc nL own nm ret F L rv pc lv st (fun h => if c then k1 h else k2 h) := by
  intro h r h' hdn
  replace hdn : (if c then k1 h else k2 h) = some (r, h') := hdn
  by_cases hc : c
  · rw [if_pos hc] at hdn; exact h1 hc h r h' hdn
  · rw [if_neg hc] at hdn; exact h2 hc h r h' hdn
theorem z_tabIn {dflt lo hi off : Int} {offs : Array Int} {len : Nat} {x v : Int32} {k : zAH → Option (ρ × zAH)} (hx0 : x = v) (hd : decode cc pc = .ok (.tableswitch dflt lo hi offs, len)) (a1 : ¬ v.toInt < lo) (a2 : ¬ hi < v.toInt) (ho : offs[(v.toInt - lo).toNat]? = some off) (ht0 : (pc : Int) + off = (t : Int)) (hk : zSm g l cc nL own nm ret F L rv t lv st k) : zSm g l cc nL own nm ret F L rv pc lv (.int x :: st) k := by
  subst hx0
  exact zlift hk (fun hx hb _ _ _ kk => lv_tableIn hx hb hd a1 a2 ho ht0 kk)
theorem z_tabOut {dflt lo hi : Int} {offs : Array Int} {len : Nat} {x : Int32} {k : zAH → Option (ρ × zAH)} (hd : decode cc pc = .ok (.tableswitch dflt lo hi offs, len)) (ho : (x.toInt < lo ∨ hi < x.toInt) ∨ (¬ x.toInt < lo ∧ ¬ hi < x.toInt ∧ offs[(x.toInt - lo).toNat]? = some dflt)) (ht0 : (pc : Int) + dflt = (t : Int)) (hk : zSm g l cc nL own nm ret F L rv t lv st k) : zSm g l cc nL own nm ret F L rv pc lv (.int x :: st) k := by
  rcases ho with ho | ⟨a1, a2, ho⟩
  · exact zlift hk (fun hx hb _ _ _ kk => lv_tableOut hx hb hd ho ht0 kk)
  · exact zlift hk (fun hx hb _ _ _ kk => lv_tableIn hx hb hd a1 a2 ho ht0 kk)
end zR7
def zmx (x y : Int32) : Int32 := if x < y then y else x
def zmn (x y : Int32) : Int32 := if y < x then y else x
section zR8
variable {ρ : Type} {g : zG} {l : Launch} {cc : ByteArray} {nL : Nat} {own nm : String} {ret : Option FieldType} {F L : Nat} {rv : ρ → Option Value} {pc q t : Nat} {lv lv' : List (Nat × Value)} {st : List Value} {k : zAH → Option (ρ × zAH)}
theorem z_mmax {idx : Nat} {x y : Int32} (w1 : Cond.methodLink own idx Lib.Math.max.name ∈ zWT) (w2 : Cond.static Lib.Math.max.name ∈ zWT) (w3 : Cond.initialized "java/lang/Math" ∈ zWT) (w4 : Cond.code Lib.Math.max.name Lib.Math.max.code 2 (some .int) ∈ zWT) (hF1 : 1 ≤ F) (hL1 : 21 ≤ L) (hst : (st.map fun v => v.category).sum ≤ 8) (hd : decode cc pc = .ok (.invokestatic idx, 3)) (he : pc + 3 = q) (hk : zSm g l cc nL own nm ret F L rv q lv (.int (zmx x y) :: st) k) : zSm g l cc nL own nm ret F L rv pc lv (.int y :: .int x :: st) k := by
  subst he
  intro h r h' hdn
  obtain ⟨hm, hw⟩ := hk h r h' hdn
  refine ⟨hm, fun p e s m args below meth c H locs ls n0 s0 R E => ?_⟩
  have kk := hw p e s m args below meth c H locs ls n0 s0 R E
  obtain ⟨⟨hx, hb, hml, hown, ht, -⟩, hK, hS, hW, hbs, hl, ⟨hn0, hs0⟩, hF, hL, hc, hsl⟩ := E
  have hcat : ((st.map (zcv g)).map fun v => v.category).sum ≤ 8 := by rw [List.map_map]; simpa [Function.comp_def, zcat] using hst
  have h1 := hm.1; have h2 := hm.2
  exact va_mmax hx hb (by rw [hml]; exact hl.1.symm) hown (ht _ w1) (ht _ w2) (ht _ w3) (ht _ w4) (Nat.le_trans hF1 hF) (by omega) (by omega) (by omega) hd kk
theorem z_mmin {idx : Nat} {x y : Int32} (w1 : Cond.methodLink own idx Lib.Math.min.name ∈ zWT) (w2 : Cond.static Lib.Math.min.name ∈ zWT) (w3 : Cond.initialized "java/lang/Math" ∈ zWT) (w4 : Cond.code Lib.Math.min.name Lib.Math.min.code 2 (some .int) ∈ zWT) (hF1 : 1 ≤ F) (hL1 : 21 ≤ L) (hst : (st.map fun v => v.category).sum ≤ 8) (hd : decode cc pc = .ok (.invokestatic idx, 3)) (he : pc + 3 = q) (hk : zSm g l cc nL own nm ret F L rv q lv (.int (zmn x y) :: st) k) : zSm g l cc nL own nm ret F L rv pc lv (.int y :: .int x :: st) k := by
  subst he
  intro h r h' hdn
  obtain ⟨hm, hw⟩ := hk h r h' hdn
  refine ⟨hm, fun p e s m args below meth c H locs ls n0 s0 R E => ?_⟩
  have kk := hw p e s m args below meth c H locs ls n0 s0 R E
  obtain ⟨⟨hx, hb, hml, hown, ht, -⟩, hK, hS, hW, hbs, hl, ⟨hn0, hs0⟩, hF, hL, hc, hsl⟩ := E
  have hcat : ((st.map (zcv g)).map fun v => v.category).sum ≤ 8 := by rw [List.map_map]; simpa [Function.comp_def, zcat] using hst
  have h1 := hm.1; have h2 := hm.2
  exact va_mmin hx hb (by rw [hml]; exact hl.1.symm) hown (ht _ w1) (ht _ w2) (ht _ w3) (ht _ w4) (Nat.le_trans hF1 hF) (by omega) (by omega) (by omega) hd kk
end zR8
