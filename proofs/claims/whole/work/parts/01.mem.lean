/-! Walks over a memory: VJ, and a row for each kind of instruction. -/
abbrev Mem : Type := Nat → Nat → Int32
abbrev Rs : Type := Option (Int32 × Mem)
def stM (μ : Mem) (q j : Nat) (x : Int32) : Mem := fun a => if a = q then upd (μ a) j x else μ a
theorem stM_eq (μ : Mem) (q j : Nat) (x : Int32) : stM μ q j x q = upd (μ q) j x := if_pos rfl
theorem stM_ne {μ : Mem} {q j a : Nat} {x : Int32} (h : ¬ a = q) : stM μ q j x a = μ a := if_neg h
abbrev inB (i : Int32) (n : Nat) : Prop := ¬ (i < 0 ∨ n ≤ i.toNatClampNeg)
def gd (P : Prop) [Decidable P] (o : Rs) : Rs := if P then o else none
def bd (o : Rs) (K : Int32 → Mem → Rs) : Rs := match o with
  | none => none
  | some x => K x.1 x.2
def jn {α : Type} (j : α) (b : α → Rs) : Rs := b j
theorem gd_t {P : Prop} [Decidable P] {o : Rs} (h : P) : gd P o = o := if_pos h
theorem gd_inv {P : Prop} [Decidable P] {o : Rs} {z : Int32 × Mem} (h : gd P o = some z) : P ∧ o = some z := by
  unfold gd at h
  by_cases hp : P
  · rw [if_pos hp] at h; exact ⟨hp, h⟩
  · rw [if_neg hp] at h; cases h
theorem bd_some {a : Int32} {μ : Mem} {K : Int32 → Mem → Rs} : bd (some (a, μ)) K = K a μ := rfl
theorem bd_inv {o : Rs} {K : Int32 → Mem → Rs} {z : Int32 × Mem} (h : bd o K = some z) : ∃ (a : Int32) (μ : Mem), o = some (a, μ) ∧ K a μ = some z := by
  cases o with
  | none => cases h
  | some x => exact ⟨x.1, x.2, rfl, h⟩
theorem jn_inv {α : Type} {j : α} {b : α → Rs} {z : Int32 × Mem} (h : jn j b = some z) : ∃ J : α, J = j ∧ b J = some z := ⟨j, rfl, h⟩
theorem rt_inv {a r : Int32} {μ μ1 : Mem} (h : (some (a, μ) : Rs) = some (r, μ1)) : a = r ∧ μ = μ1 := ⟨congrArg Prod.fst (Option.some.inj h), congrArg Prod.snd (Option.some.inj h)⟩
theorem no_ns {P : Prop} {z : Int32 × Mem} (h : (none : Rs) = some z) : P := by cases h
abbrev imx (x y : Int32) : Int32 := if x < y then y else x
abbrev imn (x y : Int32) : Int32 := if y < x then y else x
