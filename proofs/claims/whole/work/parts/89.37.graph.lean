/-! Pure: passes over a small graph reach the least fixed point after as many passes as there are places, less one. -/
/-- how many of the first n places have P -/
def cntP (P : Nat → Prop) [DecidablePred P] : Nat → Nat
  | 0 => 0
  | n + 1 => cntP P n + (if P n then 1 else 0)
theorem cntP_le (P : Nat → Prop) [DecidablePred P] (n : Nat) : cntP P n ≤ n := by
  induction n with
  | zero => exact Nat.le_refl _
  | succ n ih =>
    unfold cntP
    split <;> omega
theorem cntP_mono {P Q : Nat → Prop} [DecidablePred P] [DecidablePred Q] {n : Nat} (h : ∀ i, i < n → P i → Q i) : cntP P n ≤ cntP Q n := by
  induction n with
  | zero => exact Nat.le_refl _
  | succ n ih =>
    have h1 := ih (fun i hi => h i (by omega))
    unfold cntP
    by_cases hp : P n
    · rw [if_pos hp, if_pos (h n (by omega) hp)]
      omega
    · rw [if_neg hp]
      split <;> omega
theorem cntP_lt {P Q : Nat → Prop} [DecidablePred P] [DecidablePred Q] {n k : Nat} (h : ∀ i, i < n → P i → Q i) (hk : k < n) (hq : Q k) (hp : ¬ P k) : cntP P n < cntP Q n := by
  induction n with
  | zero => omega
  | succ n ih =>
    by_cases e : k = n
    · subst e
      have h1 := cntP_mono (P := P) (Q := Q) (n := k) (fun i hi => h i (by omega))
      unfold cntP
      rw [if_neg hp, if_pos hq]
      omega
    · have h1 := ih (fun i hi => h i (by omega)) (by omega)
      unfold cntP
      by_cases hp2 : P n
      · rw [if_pos hp2, if_pos (h n (by omega) hp2)]
        omega
      · rw [if_neg hp2]
        split <;> omega
theorem cntP_all {P : Nat → Prop} [DecidablePred P] {n : Nat} (h : n ≤ cntP P n) : ∀ i, i < n → P i := by
  induction n with
  | zero => intro i hi; omega
  | succ n ih =>
    have h1 := cntP_le P n
    unfold cntP at h
    by_cases hp : P n
    · rw [if_pos hp] at h
      intro i hi
      by_cases e : i = n
      · subst e; exact hp
      · exact ih (by omega) i (by omega)
    · rw [if_neg hp] at h
      omega
/-- a place where f is greatest among those with P -/
theorem gx_max (P : Nat → Prop) (f : Nat → Int) : ∀ n, (∃ i, i < n ∧ P i) → ∃ i, i < n ∧ P i ∧ ∀ j, j < n → P j → f j ≤ f i := by
  intro n
  induction n with
  | zero => intro ⟨i, h, _⟩; omega
  | succ n ih =>
    intro ⟨i, hi, hp⟩
    by_cases hn : ∃ i, i < n ∧ P i
    · obtain ⟨k, k1, k2, k3⟩ := ih hn
      by_cases hpn : P n ∧ f k < f n
      · refine ⟨n, by omega, hpn.1, fun j hj pj => ?_⟩
        by_cases e : j = n
        · rw [e]; exact Int.le_refl _
        · have h3 := k3 j (by omega) pj
          have h4 := hpn.2
          omega
      · refine ⟨k, by omega, k2, fun j hj pj => ?_⟩
        by_cases e : j = n
        · have h3 : ¬ f k < f n := fun z => hpn ⟨e ▸ pj, z⟩
          rw [e]
          omega
        · exact k3 j (by omega) pj
    · have e : i = n := by
        by_cases q : i < n
        · exact absurd ⟨i, q, hp⟩ hn
        · omega
      refine ⟨i, hi, hp, fun j hj pj => ?_⟩
      by_cases e2 : j = i
      · rw [e2]; exact Int.le_refl _
      · exact absurd ⟨j, by omega, pj⟩ hn
/-- while a place isn't settled, a step settles one more: E the edges, L the least fixed point over init -/
theorem gx_settle {E : Nat → Nat → Prop} {init L r r' : Nat → Int} {n : Nat} (hE : ∀ y x, E y x → y < n ∧ x < n) (h0 : ∀ i, i < n → init i ≤ r i) (hle : ∀ i, i < n → r i ≤ L i) (hle' : ∀ i, i < n → r' i ≤ L i)
    (hstep : ∀ y x, E y x → r y = L y → r y ≤ r' x) (hleast : ∀ g : Nat → Int, (∀ i, i < n → init i ≤ g i) → (∀ y x, E y x → g y ≤ g x) → ∀ i, i < n → L i ≤ g i) (hfix : ∀ y x, E y x → L y ≤ L x)
    (hex : ∃ i, i < n ∧ ¬ r i = L i) : ∃ k, k < n ∧ ¬ r k = L k ∧ r' k = L k := by
  obtain ⟨u, u1, u2, u3⟩ := gx_max (fun i => ¬ r i = L i) L n hex
  apply Classical.byContradiction
  intro hno0
  have hno : ∀ k, k < n → ¬ r k = L k → ¬ r' k = L k := fun k a b z => hno0 ⟨k, a, b, z⟩
  obtain ⟨g, hg⟩ : ∃ g : Nat → Int, ∀ i, g i = if ¬ r i = L i ∧ L i = L u then L u - 1 else L i := ⟨_, fun _ => rfl⟩
  have key := hleast g (fun i hi => by
    have a1 := h0 i hi
    have a2 := hle i hi
    rw [hg]
    by_cases q : ¬ r i = L i ∧ L i = L u
    · rw [if_pos q]
      have q1 := q.1
      have q2 := q.2
      omega
    · rw [if_neg q]
      omega) (fun y x hyx => by
    obtain ⟨hy, hx⟩ := hE y x hyx
    have f1 := hfix y x hyx
    rw [hg, hg]
    by_cases cx : ¬ r x = L x ∧ L x = L u
    · rw [if_pos cx]
      have x1 := cx.1
      have x2 := cx.2
      by_cases cy : ¬ r y = L y ∧ L y = L u
      · rw [if_pos cy]
        exact Int.le_refl _
      · rw [if_neg cy]
        by_cases q : r y = L y
        · have b1 := hstep y x hyx q
          have b2 := hle' x hx
          have b3 := hno x hx x1
          omega
        · have b4 : ¬ L y = L u := fun z => cy ⟨q, z⟩
          have b5 := u3 y hy q
          omega
    · rw [if_neg cx]
      by_cases cy : ¬ r y = L y ∧ L y = L u
      · rw [if_pos cy]
        have y2 := cy.2
        omega
      · rw [if_neg cy]
        exact f1) u u1
  rw [hg, if_pos ⟨u2, rfl⟩] at key
  omega
/-- all settled, or c places at least -/
def gxS (r L : Nat → Int) (n c : Nat) : Prop := (∀ i, i < n → r i = L i) ∨ c ≤ cntP (fun i => r i = L i) n
theorem gx_zero {E : Nat → Nat → Prop} {init L r : Nat → Int} {n : Nat} (hE : ∀ y x, E y x → y < n ∧ x < n) (h0 : ∀ i, i < n → init i ≤ r i) (hle : ∀ i, i < n → r i ≤ L i) (hleast : ∀ g : Nat → Int, (∀ i, i < n → init i ≤ g i) → (∀ y x, E y x → g y ≤ g x) → ∀ i, i < n → L i ≤ g i) (hfix : ∀ y x, E y x → L y ≤ L x) : gxS r L n 1 := by
  by_cases hall : ∀ i, i < n → r i = L i
  · exact Or.inl hall
  · refine Or.inr ?_
    have hex : ∃ i, i < n ∧ ¬ r i = L i := by
      apply Classical.byContradiction
      intro h
      exact hall (fun i hi => Classical.byContradiction (fun z => h ⟨i, hi, z⟩))
    apply Classical.byContradiction
    intro hlt
    have hz : cntP (fun i => r i = L i) n = 0 := by omega
    have hnone : ∀ i, i < n → ¬ r i = L i := by
      intro i hi h
      have h2 := cntP_lt (P := fun _ => False) (Q := fun i => r i = L i) (n := n) (k := i) (fun _ _ h => h.elim) hi h (fun h => h)
      omega
    obtain ⟨k, k1, k2, k3⟩ := gx_settle (r := r) (r' := r) hE h0 hle hle (fun y x hyx h => absurd h (hnone y (hE y x hyx).1)) hleast hfix hex
    exact k2 k3
theorem gx_next {E : Nat → Nat → Prop} {init L r r' : Nat → Int} {n c : Nat} (hS : gxS r L n c) (hE : ∀ y x, E y x → y < n ∧ x < n) (h0 : ∀ i, i < n → init i ≤ r i) (hmono : ∀ i, i < n → r i ≤ r' i) (hle : ∀ i, i < n → r i ≤ L i) (hle' : ∀ i, i < n → r' i ≤ L i)
    (hstep : ∀ y x, E y x → r y ≤ r' x) (hleast : ∀ g : Nat → Int, (∀ i, i < n → init i ≤ g i) → (∀ y x, E y x → g y ≤ g x) → ∀ i, i < n → L i ≤ g i) (hfix : ∀ y x, E y x → L y ≤ L x) : gxS r' L n (c + 1) := by
  have hkeep : ∀ i, i < n → r i = L i → r' i = L i := by
    intro i hi h
    have a := hmono i hi
    have b := hle' i hi
    omega
  by_cases hall : ∀ i, i < n → r i = L i
  · exact Or.inl (fun i hi => hkeep i hi (hall i hi))
  · rcases hS with h | h
    · exact absurd h hall
    · refine Or.inr ?_
      have hex : ∃ i, i < n ∧ ¬ r i = L i := by
        apply Classical.byContradiction
        intro h
        exact hall (fun i hi => Classical.byContradiction (fun z => h ⟨i, hi, z⟩))
      obtain ⟨k, k1, k2, k3⟩ := gx_settle (r := r) (r' := r') hE h0 hle hle' (fun y x hyx _ => hstep y x hyx) hleast hfix hex
      have h2 := cntP_lt (P := fun i => r i = L i) (Q := fun i => r' i = L i) (n := n) hkeep k1 k3 k2
      omega
theorem gx_end {L r : Nat → Int} {n : Nat} (hS : gxS r L n n) : ∀ i, i < n → r i = L i := by
  rcases hS with h | h
  · exact h
  · exact cntP_all (P := fun i => r i = L i) h
