/-! Pure: counting over a stretch of numbers. -/
/-- how many of the d numbers from i on have P -/
def cnF (P : Nat → Prop) [DecidablePred P] : Nat → Nat → Nat
  | _, 0 => 0
  | i, d + 1 => (if P i then 1 else 0) + cnF P (i + 1) d
theorem cnF_s (P : Nat → Prop) [DecidablePred P] (i d : Nat) : cnF P i (d + 1) = (if P i then 1 else 0) + cnF P (i + 1) d := rfl
theorem cnF_le (P : Nat → Prop) [DecidablePred P] : ∀ (d i : Nat), cnF P i d ≤ d := by
  intro d
  induction d with
  | zero => intro i; exact Nat.le_refl _
  | succ d ih =>
    intro i
    have h := ih (i + 1)
    unfold cnF
    split <;> omega
theorem cnF_congr {P Q : Nat → Prop} [DecidablePred P] [DecidablePred Q] : ∀ (d i : Nat), (∀ x, i ≤ x → x < i + d → (P x ↔ Q x)) → cnF P i d = cnF Q i d := by
  intro d
  induction d with
  | zero => intro i _; rfl
  | succ d ih =>
    intro i h
    have h1 := ih (i + 1) (fun x a b => h x (by omega) (by omega))
    have h2 := h i (by omega) (by omega)
    unfold cnF
    rw [h1]
    by_cases hp : P i
    · rw [if_pos hp, if_pos (h2.mp hp)]
    · rw [if_neg hp, if_neg (fun z => hp (h2.mpr z))]
theorem cnF_zero {P : Nat → Prop} [DecidablePred P] : ∀ (d i : Nat), (∀ x, i ≤ x → x < i + d → ¬ P x) → cnF P i d = 0 := by
  intro d
  induction d with
  | zero => intro i _; rfl
  | succ d ih =>
    intro i h
    unfold cnF
    rw [if_neg (h i (by omega) (by omega)), ih (i + 1) (fun x a b => h x (by omega) (by omega))]
/-- without one that counts -/
theorem cnF_less {Q : Nat → Prop} [DecidablePred Q] (y : Nat) : ∀ (d i : Nat), i ≤ y → y < i + d → Q y → cnF Q i d = cnF (fun x => Q x ∧ ¬ x = y) i d + 1 := by
  intro d
  induction d with
  | zero => intro i h1 h2; omega
  | succ d ih =>
    intro i h1 h2 hq
    unfold cnF
    by_cases e : i = y
    · subst e
      rw [if_pos hq, if_neg (fun z => z.2 rfl)]
      have := cnF_congr (P := Q) (Q := fun x => Q x ∧ ¬ x = i) d (i + 1) (fun x a b => ⟨fun z => ⟨z, by omega⟩, fun z => z.1⟩)
      omega
    · have h3 := ih (i + 1) (by omega) (by omega) hq
      by_cases hqi : Q i
      · rw [if_pos hqi, if_pos ⟨hqi, e⟩]; omega
      · rw [if_neg hqi, if_neg (fun z => hqi z.1)]; omega
/-- as many at least, where those of the first stretch go to different ones of the second -/
theorem cnF_inj {P : Nat → Prop} [DecidablePred P] (f : Nat → Nat) (j e : Nat) : ∀ (d i : Nat) (Q : Nat → Prop) [DecidablePred Q], (∀ x, i ≤ x → x < i + d → P x → j ≤ f x ∧ f x < j + e ∧ Q (f x)) → (∀ x y, i ≤ x → x < i + d → i ≤ y → y < i + d → P x → P y → f x = f y → x = y) → cnF P i d ≤ cnF Q j e := by
  intro d
  induction d with
  | zero => intro i Q _ _ _; exact Nat.zero_le _
  | succ d ih =>
    intro i Q _ h1 h2
    rw [cnF_s P]
    by_cases hp : P i
    · rw [if_pos hp]
      obtain ⟨a1, a2, a3⟩ := h1 i (by omega) (by omega) hp
      have h3 := cnF_less (Q := Q) (f i) e j a1 a2 a3
      have h4 := ih (i + 1) (fun x => Q x ∧ ¬ x = f i) (fun x b1 b2 hx => by
        obtain ⟨c1, c2, c3⟩ := h1 x (by omega) (by omega) hx
        refine ⟨c1, c2, c3, fun z => ?_⟩
        have := h2 x i (by omega) (by omega) (by omega) (by omega) hx hp z
        omega) (fun x y b1 b2 b3 b4 hx hy z => h2 x y (by omega) (by omega) (by omega) (by omega) hx hy z)
      omega
    · rw [if_neg hp]
      have h4 := ih (i + 1) Q (fun x b1 b2 hx => h1 x (by omega) (by omega) hx) (fun x y b1 b2 b3 b4 hx hy z => h2 x y (by omega) (by omega) (by omega) (by omega) hx hy z)
      omega
theorem cnF_split {P Q : Nat → Prop} [DecidablePred P] [DecidablePred Q] : ∀ (d i : Nat), cnF P i d = cnF (fun x => P x ∧ Q x) i d + cnF (fun x => P x ∧ ¬ Q x) i d := by
  intro d
  induction d with
  | zero => intro i; rfl
  | succ d ih =>
    intro i
    have h := ih (i + 1)
    unfold cnF
    by_cases hp : P i
    · by_cases hq : Q i
      · rw [if_pos hp, if_pos ⟨hp, hq⟩, if_neg (fun z => z.2 hq)]; omega
      · rw [if_pos hp, if_neg (fun z => hq z.2), if_pos ⟨hp, hq⟩]; omega
    · rw [if_neg hp, if_neg (fun z => hp z.1), if_neg (fun z => hp z.1)]; omega
theorem cnF_last {P : Nat → Prop} [DecidablePred P] : ∀ (d i : Nat), cnF P i (d + 1) = cnF P i d + (if P (i + d) then 1 else 0) := by
  intro d
  induction d with
  | zero => intro i; simp [cnF]
  | succ d ih =>
    intro i
    have h := ih (i + 1)
    have e : i + 1 + d = i + (d + 1) := by omega
    rw [e] at h
    rw [cnF, h, cnF]
    omega
