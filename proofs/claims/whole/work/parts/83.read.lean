/-! reading a TEXT -/
def slO (v : Int32) : Option Int := if v = 61 then some 0 else if v = 47 then some 1 else if v = 94 then some 2 else if v = 92 then some (-1) else none
def pcO (v : Int32) : Option Nat := if v = 122 then some 0 else if v = 119 then some 1 else if v = 114 then some 2 else if v = 115 then some 3 else none
def kdO (v : Int32) : Option Nat := if v = 110 then some 0 else if v = 103 then some 1 else if v = 111 then some 2 else if v = 104 then some 3 else if v = 109 then some 4 else if v = 117 then some 5 else none
def bdO (v : Int32) : Option Nat := match ir v 49 57 with
  | none => none
  | some j => some (j - 48)
def rd {α : Type} (f : Nat → Int32) (n : Nat) (O : Int32 → Option α) (i : Nat) : Option α := if i < n then O (f i) else none
def rnL (g : Nat → Bool) : Nat → Nat → Nat
  | 0, _ => 0
  | c + 1, p => if g p = true then rnL g c (p + 1) + 1 else 0
def gB (f : Nat → Int32) (n : Nat) (i : Nat) : Bool := decide (i < n ∧ f i = 32)
def gS (f : Nat → Int32) (n : Nat) (i : Nat) : Bool := (rd f n slO i).isSome
def gP (f : Nat → Int32) (n : Nat) (i : Nat) : Bool := (rd f n pcO i).isSome
def skp (f : Nat → Int32) (n p : Nat) : Nat := p + rnL (gB f n) 101 p
def cS (f : Nat → Int32) (n p : Nat) : Nat := rnL (gP f n) 8 (p + 2)
def y0S (f : Nat → Int32) (n : Nat) : Nat := skp f n 0 + 1
def yS (f : Nat → Int32) (n : Nat) : Nat := rnL (gS f n) 40 (y0S f n)
def qS (f : Nat → Int32) (n : Nat) : Nat → Nat
  | 0 => skp f n (y0S f n + yS f n)
  | x + 1 => skp f n (qS f n x + 2 + cS f n (qS f n x))
/-- why a RUNNER can't be read at p -/
def bdS (f : Nat → Int32) (n p x : Nat) : Option Nat := if rd f n kdO p = none ∨ 5 ≤ x then some p else if rd f n bdO (p + 1) = none then some (p + 1) else if cS f n p = 0 ∨ gP f n (p + 2 + cS f n p) = true then some (p + 2 + cS f n p) else none
def rdL (f : Nat → Int32) (n : Nat) : Nat → Nat → Nat ⊕ Nat
  | 0, _ => .inl 0
  | c + 1, x => if n ≤ qS f n x then .inr x else match bdS f n (qS f n x) x with
    | some p => .inl p
    | none => rdL f n c (x + 1)
/-- the FAULT, or how many RUNNERS -/
def rdS (f : Nat → Int32) (n : Nat) : Nat ⊕ Nat := if ¬ (skp f n 0 < n ∧ f (skp f n 0) = 121) then .inl (skp f n 0) else if yS f n = 0 ∨ gS f n (y0S f n + yS f n) = true then .inl (y0S f n + yS f n) else rdL f n 6 0
def rdV : Nat ⊕ Nat → Int32
  | .inl p => nI p
  | .inr _ => -9
def rsS (f : Nat → Int32) (n y : Nat) : Int := (rd f n slO (y0S f n + y)).getD 0
def rkK (f : Nat → Int32) (n x : Nat) : Nat := (rd f n kdO (qS f n x)).getD 0
def rbB (f : Nat → Int32) (n x : Nat) : Nat := (rd f n bdO (qS f n x + 1)).getD 0
def rzZ (f : Nat → Int32) (n x : Nat) : Nat := cS f n (qS f n x)
def rpP (f : Nat → Int32) (n x i : Nat) : Nat := (rd f n pcO (qS f n x + 2 + i)).getD 0
def hdS (f : Nat → Int32) (n N : Nat) : zHD := (yS f n, N, rsS f n, rkK f n, rzZ f n, rpP f n)
theorem rnL_le {g : Nat → Bool} : ∀ c p, rnL g c p ≤ c
  | 0, _ => Nat.le_refl _
  | c + 1, p => by
    rw [rnL]
    have := rnL_le (g := g) c (p + 1)
    by_cases h : g p = true
    · rw [if_pos h]; omega
    · rw [if_neg h]; omega
theorem rnL_t {g : Nat → Bool} : ∀ c p i, i < rnL g c p → g (p + i) = true
  | 0, _, i, h => absurd h (Nat.not_lt_zero i)
  | c + 1, p, i, h => by
    rw [rnL] at h
    by_cases hg : g p = true
    · rw [if_pos hg] at h
      cases i with
      | zero => exact hg
      | succ i =>
        have := rnL_t (g := g) c (p + 1) i (by omega)
        rw [show p + (i + 1) = p + 1 + i by omega]
        exact this
    · rw [if_neg hg] at h
      omega
theorem rnL_f {g : Nat → Bool} : ∀ c p, rnL g c p < c → g (p + rnL g c p) = false
  | 0, _, h => absurd h (Nat.not_lt_zero _)
  | c + 1, p, h => by
    rw [rnL] at h ⊢
    by_cases hg : g p = true
    · rw [if_pos hg] at h ⊢
      have := rnL_f (g := g) c (p + 1) (by omega)
      rw [show p + (rnL g c (p + 1) + 1) = p + 1 + rnL g c (p + 1) by omega]
      exact this
    · rw [if_neg hg]
      exact Bool.eq_false_iff.mpr hg
theorem rnL_u {g : Nat → Bool} {c p j : Nat} (h1 : ∀ i, i < j → g (p + i) = true) (h2 : j < c) (h3 : g (p + j) = false) : rnL g c p = j := by
  rcases Nat.lt_trichotomy (rnL g c p) j with h | h | h
  · have e1 := h1 _ h
    rw [rnL_f (g := g) c p (by omega)] at e1
    cases e1
  · exact h
  · have e1 := rnL_t c p j h
    rw [h3] at e1
    cases e1
section
variable {f : Nat → Int32} {n : Nat}
theorem gB_t {i : Nat} : gB f n i = true ↔ i < n ∧ f i = 32 := by
  unfold gB
  exact decide_eq_true_iff
theorem gB_f {i : Nat} (h : ¬ (i < n ∧ f i = 32)) : gB f n i = false := Bool.eq_false_iff.mpr fun z => h (gB_t.mp z)
theorem skp_no {p : Nat} (h : ¬ (p < n ∧ f p = 32)) : skp f n p = p := by
  unfold skp
  rw [rnL_u (j := 0) (fun i hi => absurd hi (Nat.not_lt_zero i)) (by omega) (gB_f h)]
  rfl
theorem skp_le {p : Nat} : p ≤ skp f n p ∧ (skp f n p ≤ n ∨ skp f n p = p) := by
  refine ⟨Nat.le_add_right _ _, ?_⟩
  unfold skp
  cases h : rnL (gB f n) 101 p with
  | zero => exact Or.inr rfl
  | succ j =>
    have := (gB_t.mp (rnL_t (g := gB f n) 101 p j (by omega))).1
    left
    omega
theorem skp_ed {p : Nat} (hn : n ≤ 100) : ¬ (skp f n p < n ∧ f (skp f n p) = 32) := by
  intro h
  have hl : rnL (gB f n) 101 p < 101 := by
    rcases Nat.lt_or_ge (rnL (gB f n) 101 p) 101 with z | z
    · exact z
    · have := (gB_t.mp (rnL_t (g := gB f n) 101 p 100 (by omega))).1
      omega
  have := rnL_f 101 p hl
  rw [show gB f n (p + rnL (gB f n) 101 p) = true from gB_t.mpr h] at this
  cases this
theorem skp_up {p : Nat} (hn : n ≤ 100) (h : p < n ∧ f p = 32) : skp f n (p + 1) = skp f n p := by
  have he := skp_ed (f := f) (p := p + 1) hn
  have hl := (skp_le (f := f) (n := n) (p := p + 1)).2
  unfold skp at he hl ⊢
  rw [rnL_u (p := p) (j := rnL (gB f n) 101 (p + 1) + 1) (fun i hi => ?_) (by omega) (gB_f (by rw [show p + (rnL (gB f n) 101 (p + 1) + 1) = p + 1 + rnL (gB f n) 101 (p + 1) by omega]; exact he))]
  · omega
  · cases i with
    | zero => exact gB_t.mpr h
    | succ i =>
      rw [show p + (i + 1) = p + 1 + i by omega]
      exact rnL_t 101 (p + 1) i (by omega)
theorem slO_x {v : Int32} (h : (slO v).isSome = true) : ¬ v = 32 ∧ kdO v = none := by
  unfold slO at h
  by_cases h1 : v = 61
  · subst h1; exact ⟨by decide, by decide⟩
  rw [if_neg h1] at h
  by_cases h2 : v = 47
  · subst h2; exact ⟨by decide, by decide⟩
  rw [if_neg h2] at h
  by_cases h3 : v = 94
  · subst h3; exact ⟨by decide, by decide⟩
  rw [if_neg h3] at h
  by_cases h4 : v = 92
  · subst h4; exact ⟨by decide, by decide⟩
  rw [if_neg h4] at h
  cases h
theorem pcO_x {v : Int32} (h : (pcO v).isSome = true) : ¬ v = 32 ∧ kdO v = none := by
  unfold pcO at h
  by_cases h1 : v = 122
  · subst h1; exact ⟨by decide, by decide⟩
  rw [if_neg h1] at h
  by_cases h2 : v = 119
  · subst h2; exact ⟨by decide, by decide⟩
  rw [if_neg h2] at h
  by_cases h3 : v = 114
  · subst h3; exact ⟨by decide, by decide⟩
  rw [if_neg h3] at h
  by_cases h4 : v = 115
  · subst h4; exact ⟨by decide, by decide⟩
  rw [if_neg h4] at h
  cases h
theorem rd_s {α : Type} {O : Int32 → Option α} {i : Nat} (h : (rd f n O i).isSome = true) : i < n ∧ (O (f i)).isSome = true := by
  unfold rd at h
  by_cases hi : i < n
  · rw [if_pos hi] at h; exact ⟨hi, h⟩
  · rw [if_neg hi] at h; cases h
theorem rd_t {α : Type} {O : Int32 → Option α} {i : Nat} (hi : i < n) : rd f n O i = O (f i) := if_pos hi
theorem rd_n {α : Type} {O : Int32 → Option α} {i : Nat} (hi : ¬ i < n) : rd f n O i = none := if_neg hi
theorem slO_r {v : Int32} {z : Int} (h : slO v = some z) : -1 ≤ z ∧ z ≤ 2 := by
  unfold slO at h
  by_cases h1 : v = 61
  · rw [if_pos h1] at h; cases h; decide
  rw [if_neg h1] at h
  by_cases h2 : v = 47
  · rw [if_pos h2] at h; cases h; decide
  rw [if_neg h2] at h
  by_cases h3 : v = 94
  · rw [if_pos h3] at h; cases h; decide
  rw [if_neg h3] at h
  by_cases h4 : v = 92
  · rw [if_pos h4] at h; cases h; decide
  rw [if_neg h4] at h
  cases h
theorem pcO_r {v : Int32} {z : Nat} (h : pcO v = some z) : z ≤ 3 := by
  unfold pcO at h
  by_cases h1 : v = 122
  · rw [if_pos h1] at h; cases h; decide
  rw [if_neg h1] at h
  by_cases h2 : v = 119
  · rw [if_pos h2] at h; cases h; decide
  rw [if_neg h2] at h
  by_cases h3 : v = 114
  · rw [if_pos h3] at h; cases h; decide
  rw [if_neg h3] at h
  by_cases h4 : v = 115
  · rw [if_pos h4] at h; cases h; decide
  rw [if_neg h4] at h
  cases h
theorem kdO_r {v : Int32} {z : Nat} (h : kdO v = some z) : z ≤ 5 := by
  unfold kdO at h
  by_cases h1 : v = 110
  · rw [if_pos h1] at h; cases h; decide
  rw [if_neg h1] at h
  by_cases h2 : v = 103
  · rw [if_pos h2] at h; cases h; decide
  rw [if_neg h2] at h
  by_cases h3 : v = 111
  · rw [if_pos h3] at h; cases h; decide
  rw [if_neg h3] at h
  by_cases h4 : v = 104
  · rw [if_pos h4] at h; cases h; decide
  rw [if_neg h4] at h
  by_cases h5 : v = 109
  · rw [if_pos h5] at h; cases h; decide
  rw [if_neg h5] at h
  by_cases h6 : v = 117
  · rw [if_pos h6] at h; cases h; decide
  rw [if_neg h6] at h
  cases h
theorem bdO_r {v : Int32} {z : Nat} (h : bdO v = some z) : 1 ≤ z ∧ z ≤ 9 ∧ v = nI (z + 48) := by
  unfold bdO at h
  cases e : ir v 49 57 with
  | none => rw [e] at h; cases h
  | some j =>
    rw [e] at h
    obtain ⟨e1, e2, e3⟩ := ir_s (by omega) (by omega) e
    cases h
    exact ⟨by omega, by omega, by rw [e1, show j - 48 + 48 = j by omega]⟩
/-! what a HILL that is read holds -/
theorem rdL_ok : ∀ c x N, x ≤ 5 → x + c = 6 → (∀ i, i < x → bdS f n (qS f n i) i = none) → rdL f n c x = .inr N → N ≤ 5 ∧ ∀ i, i < N → bdS f n (qS f n i) i = none
  | 0, x, N, h1, h2, _, _ => by omega
  | c + 1, x, N, h1, h2, hp, h => by
    rw [rdL] at h
    by_cases hq : n ≤ qS f n x
    · rw [if_pos hq] at h
      cases h
      exact ⟨h1, hp⟩
    · rw [if_neg hq] at h
      cases hb : bdS f n (qS f n x) x with
      | some p => rw [hb] at h; cases h
      | none =>
        rw [hb] at h
        have hx : x < 5 := by
          rcases Nat.lt_or_ge x 5 with z | z
          · exact z
          · unfold bdS at hb
            rw [if_pos (Or.inr z)] at hb
            cases hb
        refine rdL_ok c (x + 1) N (by omega) (by omega) (fun i hi => ?_) h
        by_cases hix : i = x
        · subst hix; exact hb
        · exact hp i (by omega)
theorem bdS_n {p x : Nat} (h : bdS f n p x = none) : (∃ kd, rd f n kdO p = some kd) ∧ x < 5 ∧ (∃ b, rd f n bdO (p + 1) = some b) ∧ 0 < cS f n p ∧ gP f n (p + 2 + cS f n p) = false := by
  unfold bdS at h
  by_cases h1 : rd f n kdO p = none ∨ 5 ≤ x
  · rw [if_pos h1] at h; cases h
  rw [if_neg h1] at h
  by_cases h2 : rd f n bdO (p + 1) = none
  · rw [if_pos h2] at h; cases h
  rw [if_neg h2] at h
  by_cases h3 : cS f n p = 0 ∨ gP f n (p + 2 + cS f n p) = true
  · rw [if_pos h3] at h; cases h
  refine ⟨?_, by omega, ?_, by omega, Bool.eq_false_iff.mpr fun z => h3 (Or.inr z)⟩
  · cases e : rd f n kdO p with
    | none => exact absurd (Or.inl e) h1
    | some v => exact ⟨v, rfl⟩
  · cases e : rd f n bdO (p + 1) with
    | none => exact absurd e h2
    | some v => exact ⟨v, rfl⟩
theorem rd_of {α : Type} {O : Int32 → Option α} {i : Nat} {v : α} (h : rd f n O i = some v) : i < n ∧ O (f i) = some v := by
  unfold rd at h
  by_cases hi : i < n
  · rw [if_pos hi] at h; exact ⟨hi, h⟩
  · rw [if_neg hi] at h; cases h
theorem rdS_ok {N : Nat} (h : rdS f n = .inr N) : rdL f n 6 0 = .inr N ∧ 0 < yS f n ∧ gS f n (y0S f n + yS f n) = false := by
  unfold rdS at h
  by_cases h1 : ¬ (skp f n 0 < n ∧ f (skp f n 0) = 121)
  · rw [if_pos h1] at h; cases h
  rw [if_neg h1] at h
  by_cases h2 : yS f n = 0 ∨ gS f n (y0S f n + yS f n) = true
  · rw [if_pos h2] at h; cases h
  rw [if_neg h2] at h
  exact ⟨h, by omega, Bool.eq_false_iff.mpr fun z => h2 (Or.inr z)⟩
theorem okH_rd {N : Nat} (h : rdS f n = .inr N) : okH (hdS f n N) ∧ 0 < yS f n ∧ ∀ x, x < N → 1 ≤ rbB f n x ∧ rbB f n x ≤ 9 := by
  obtain ⟨h1, h2, -⟩ := rdS_ok h
  obtain ⟨h3, h4⟩ := rdL_ok 6 0 N (by omega) (by omega) (fun i hi => absurd hi (Nat.not_lt_zero i)) h1
  refine ⟨⟨rnL_le 40 _, h3, fun y hy => ?_, fun x hx => ?_⟩, h2, fun x hx => ?_⟩
  · show -1 ≤ rsS f n y ∧ rsS f n y ≤ 2
    unfold rsS
    cases e : rd f n slO (y0S f n + y) with
    | none => decide
    | some v => exact slO_r (rd_of e).2
  · obtain ⟨⟨kd, e1⟩, -, -, e4, -⟩ := bdS_n (h4 x hx)
    refine ⟨?_, e4, rnL_le 8 _, fun i hi => ?_⟩
    · show rkK f n x ≤ 5
      unfold rkK
      rw [e1]
      exact kdO_r (rd_of e1).2
    · show rpP f n x i ≤ 3
      unfold rpP
      cases e : rd f n pcO (qS f n x + 2 + i) with
      | none => decide
      | some v => exact pcO_r (rd_of e).2
  · obtain ⟨-, -, ⟨b, e3⟩, -⟩ := bdS_n (h4 x hx)
    unfold rbB
    rw [e3]
    have := bdO_r (rd_of e3).2
    exact ⟨this.1, this.2.1⟩
end
section
variable {f : Nat → Int32} {n : Nat}
theorem cS_le {p : Nat} : cS f n p ≤ 8 := rnL_le (g := gP f n) 8 _
theorem bdS_le {p x q : Nat} (h : bdS f n p x = some q) : q ≤ p + 10 := by
  have := cS_le (f := f) (n := n) (p := p)
  unfold bdS at h
  by_cases h1 : rd f n kdO p = none ∨ 5 ≤ x
  · rw [if_pos h1] at h; cases h; omega
  rw [if_neg h1] at h
  by_cases h2 : rd f n bdO (p + 1) = none
  · rw [if_pos h2] at h; cases h; omega
  rw [if_neg h2] at h
  by_cases h3 : cS f n p = 0 ∨ gP f n (p + 2 + cS f n p) = true
  · rw [if_pos h3] at h; cases h; omega
  rw [if_neg h3] at h
  cases h
theorem rdL_le (hn : n ≤ 100) : ∀ c x q, rdL f n c x = .inl q → q ≤ 200
  | 0, x, q, h => by
    rw [rdL] at h
    cases h
    omega
  | c + 1, x, q, h => by
    rw [rdL] at h
    by_cases hq : n ≤ qS f n x
    · rw [if_pos hq] at h; cases h
    · rw [if_neg hq] at h
      cases hb : bdS f n (qS f n x) x with
      | some p =>
        rw [hb] at h
        cases h
        have := bdS_le hb
        omega
      | none =>
        rw [hb] at h
        exact rdL_le hn c (x + 1) q h
theorem rdS_le {q : Nat} (hn : n ≤ 100) (h : rdS f n = .inl q) : q ≤ 200 := by
  have h0 := (skp_le (f := f) (n := n) (p := 0)).2
  have hY : yS f n ≤ 40 := rnL_le (g := gS f n) 40 _
  unfold rdS at h
  by_cases h1 : ¬ (skp f n 0 < n ∧ f (skp f n 0) = 121)
  · rw [if_pos h1] at h; cases h; omega
  rw [if_neg h1] at h
  by_cases h2 : yS f n = 0 ∨ gS f n (y0S f n + yS f n) = true
  · rw [if_pos h2] at h
    cases h
    unfold y0S
    omega
  rw [if_neg h2] at h
  exact rdL_le hn 6 0 q h
end
