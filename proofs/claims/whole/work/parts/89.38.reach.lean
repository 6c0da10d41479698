/-! Pure: what the class reaches on a node. -/
def hrt (u : Mem) (q b : Nat) (o : Int32) : Prop := u q (3 * b) = o ∨ u q (3 * b + 1) = o ∨ u q (3 * b + 2) = o
theorem heldR_t {N b : Nat} {o : Int32} {u : Mem} (hN : 600 ≤ N) (hb : b < 3) (h : hrt u 1 b o) : f_Sh_isHeldByRoot N (nI b) o u = some (1, u) := by
  obtain ⟨N1, f1, -⟩ := succ_of (show 3 < N by omega)
  obtain ⟨N2, f2, -⟩ := succ_of (show 2 < N1 by omega)
  obtain ⟨N3, f3, -⟩ := succ_of (show 1 < N2 by omega)
  obtain ⟨N4, f4, -⟩ := succ_of (show 0 < N3 by omega)
  have eN : N = N4 + 1 + 1 + 1 + 1 := by omega
  have e0 : nI b * 3 + 0 = nI (3 * b) := root_eq (r := 0)
  have e1 : nI b * 3 + (0 + 1) = nI (3 * b + 1) := root_eq (r := 1)
  have e2 : nI b * 3 + (0 + 1 + 1) = nI (3 * b + 2) := root_eq (r := 2)
  have key : ∀ κ : Mem → Rs, k_Sh_isHeldByRoot_2 N κ (N4 + 1 + 1 + 1 + 1) (nI b) o 0 u = some (1, u) := by
    intro κ
    rw [k_Sh_isHeldByRoot_2, if_neg (by decide), e0, gdN (by omega) (by omega)]
    simp (disch := omega) only [nI_clamp]
    by_cases h0 : u 1 (3 * b) = o
    · rw [if_pos h0]
    · rw [if_neg h0, k_Sh_isHeldByRoot_2, if_neg (by decide), e1, gdN (by omega) (by omega)]
      simp (disch := omega) only [nI_clamp]
      by_cases h1 : u 1 (3 * b + 1) = o
      · rw [if_pos h1]
      · rw [if_neg h1, k_Sh_isHeldByRoot_2, if_neg (by decide), e2, gdN (by omega) (by omega)]
        simp (disch := omega) only [nI_clamp]
        rw [if_pos (h.elim (fun z => absurd z h0) (fun z => z.elim (fun z => absurd z h1) id))]
  unfold f_Sh_isHeldByRoot
  rw [show ∀ κ, k_Sh_isHeldByRoot_2 N κ N (nI b) o 0 u = k_Sh_isHeldByRoot_2 N κ (N4 + 1 + 1 + 1 + 1) (nI b) o 0 u from fun κ => by rw [← eN]]
  exact key _
theorem heldR_f {N b : Nat} {o : Int32} {u : Mem} (hN : 600 ≤ N) (hb : b < 3) (h : ¬ hrt u 1 b o) : f_Sh_isHeldByRoot N (nI b) o u = some (0, u) := by
  obtain ⟨N1, f1, -⟩ := succ_of (show 3 < N by omega)
  obtain ⟨N2, f2, -⟩ := succ_of (show 2 < N1 by omega)
  obtain ⟨N3, f3, -⟩ := succ_of (show 1 < N2 by omega)
  obtain ⟨N4, f4, -⟩ := succ_of (show 0 < N3 by omega)
  have eN : N = N4 + 1 + 1 + 1 + 1 := by omega
  have e0 : nI b * 3 + 0 = nI (3 * b) := root_eq (r := 0)
  have e1 : nI b * 3 + (0 + 1) = nI (3 * b + 1) := root_eq (r := 1)
  have e2 : nI b * 3 + (0 + 1 + 1) = nI (3 * b + 2) := root_eq (r := 2)
  have key : ∀ κ : Mem → Rs, k_Sh_isHeldByRoot_2 N κ (N4 + 1 + 1 + 1 + 1) (nI b) o 0 u = κ u := by
    intro κ
    rw [k_Sh_isHeldByRoot_2, if_neg (by decide), e0, gdN (by omega) (by omega)]
    simp (disch := omega) only [nI_clamp]
    rw [if_neg (fun z => h (Or.inl z)), k_Sh_isHeldByRoot_2, if_neg (by decide), e1, gdN (by omega) (by omega)]
    simp (disch := omega) only [nI_clamp]
    rw [if_neg (fun z => h (Or.inr (Or.inl z))), k_Sh_isHeldByRoot_2, if_neg (by decide), e2, gdN (by omega) (by omega)]
    simp (disch := omega) only [nI_clamp]
    rw [if_neg (fun z => h (Or.inr (Or.inr z))), k_Sh_isHeldByRoot_2, if_pos (by decide)]
  unfold f_Sh_isHeldByRoot
  rw [show ∀ κ, k_Sh_isHeldByRoot_2 N κ N (nI b) o 0 u = k_Sh_isHeldByRoot_2 N κ (N4 + 1 + 1 + 1 + 1) (nI b) o 0 u from fun κ => by rw [← eN]]
  exact key _
theorem rootsM {N b : Nat} {o : Int32} {u : Mem} (hb : b < 3) : (hrt u 19 b o → f_Md_roots N (nI b) o u = some (1, u)) ∧ (¬ hrt u 19 b o → f_Md_roots N (nI b) o u = some (0, u)) := by
  have e0 : 3 * nI b = nI (3 * b) := pk_mul 3 b
  have e1 : nI (3 * b) + 1 = nI (3 * b + 1) := nI_1 _
  have e2 : nI (3 * b) + 2 = nI (3 * b + 2) := nI_add _ 2
  unfold f_Md_roots
  rw [e0, e1, e2, gdN (by omega) (by omega), gdN (by omega) (by omega), gdN (by omega) (by omega)]
  simp (disch := omega) only [nI_clamp]
  constructor
  · intro h
    by_cases h0 : u 19 (3 * b) = o
    · rw [if_pos h0]
    · rw [if_neg h0]
      by_cases h1 : u 19 (3 * b + 1) = o
      · rw [if_pos h1]
      · rw [if_neg h1, if_pos (h.elim (fun z => absurd z h0) (fun z => z.elim (fun z => absurd z h1) id))]
  · intro h
    rw [if_neg (fun z => h (Or.inl z)), if_neg (fun z => h (Or.inr (Or.inl z))), if_neg (fun z => h (Or.inr (Or.inr z)))]
/-- the stamp with which a slot of node b is reached from roots and entries -/
def iniP (u : Mem) (b : Nat) (c : Int32) (s : Nat) (x : Int32) : Prop := (¬ u 3 s = 0 ∧ hrt u 1 b (u 3 s) ∧ x = c) ∨ ((u 3 s = 0 ∨ ¬ hrt u 1 b (u 3 s)) ∧ x = u 5 s)
theorem b8 {b : Nat} : (nI b + 1) * 8 = nI (8 * b + 8) := by
  rw [nI_1, show nI (b + 1) * 8 = nI ((b + 1) * 8) from pk_mul (b + 1) 8]
  congr 1
  omega
theorem b8' {b : Nat} : nI b * 8 = nI (8 * b) := by
  rw [show nI b * 8 = nI (b * 8) from pk_mul b 8, Nat.mul_comm]
theorem reach0_loop {N b : Nat} {κ : Mem → Rs} {u : Mem} (hN : 600 ≤ N) (hb : b < 3) : ∀ (d i n : Nat) (w : Mem), i + d = 8 * b + 8 → d < n → 8 * b ≤ i → (∀ p, ¬ p = 14 → w p = u p) → (∀ j, 8 * b ≤ j → j < i → iniP u b (u 0 7) j (w 14 j)) → ∃ w2, k_Sh_reachFromRootsAndEntries_5 N κ n (nI b) (nI i) w = κ w2 ∧ (∀ p, ¬ p = 14 → w2 p = u p) ∧ ∀ j, 8 * b ≤ j → j < 8 * b + 8 → iniP u b (u 0 7) j (w2 14 j) := by
  intro d
  induction d with
  | zero =>
    intro i n w hi hn hlo h1 h2
    obtain ⟨n, rfl, hn⟩ := succ_of hn
    refine ⟨w, ?_, h1, fun j a b => h2 j a (by omega)⟩
    rw [k_Sh_reachFromRootsAndEntries_5, b8, if_pos (nI_le (by omega) (by omega))]
  | succ d ih =>
    intro i n w hi hn hlo h1 h2
    obtain ⟨n, rfl, hn⟩ := succ_of hn
    obtain ⟨w1, hw1⟩ : ∃ w1, w1 = stM w 14 i (w 5 i) := ⟨_, rfl⟩
    have o1 : ∀ p, ¬ p = 14 → w1 p = u p := fun p hp => by rw [hw1, stM_ne hp]; exact h1 p hp
    have w3 := o1 3 (by decide)
    have hstep : k_Sh_reachFromRootsAndEntries_5 N κ (n + 1) (nI b) (nI i) w = bd (f_Hp_isTaken N (nI i) w1) (fun y9 u10 => if y9 = 0 then (k_Sh_reachFromRootsAndEntries_5 N κ n (nI b) (nI i + 1) u10) else (bd (f_Hp_numberAt N (nI i) u10) (fun y12 u13 => bd (f_Sh_isHeldByRoot N (nI b) y12 u13) (fun y15 u16 => if y15 = 0 then (k_Sh_reachFromRootsAndEntries_5 N κ n (nI b) (nI i + 1) u16) else (gd (inB (nI i) 24) (jn (stM u16 14 (nI i).toNatClampNeg (u16 0 7)) (fun u19 => k_Sh_reachFromRootsAndEntries_5 N κ n (nI b) (nI i + 1) u19))))))) := by
      rw [k_Sh_reachFromRootsAndEntries_5, b8, if_neg (nI_ge (by omega) (by omega)), entryAt_eq (by omega), bd_some, gdN (by omega) (by omega)]
      dsimp only [jn]
      simp (disch := omega) only [nI_clamp]
      rw [← hw1]
    rw [hstep, isTaken_eq (by omega), bd_some, w3, nI_1]
    have keep : ∀ x, ∀ j, 8 * b ≤ j → j < i → stM w 14 i x 14 j = w 14 j := fun x j a c => by rw [stM_rs, if_neg (by omega)]
    by_cases h3 : u 3 i = 0
    · rw [if_pos h3, if_pos rfl]
      refine ih (i + 1) n w1 (by omega) (by omega) (by omega) o1 (fun j a c => ?_)
      by_cases e : j = i
      · rw [e, hw1, stM_rs, if_pos rfl, h1 5 (by decide)]
        exact Or.inr ⟨Or.inl h3, rfl⟩
      · rw [hw1, keep _ j a (by omega)]
        exact h2 j a (by omega)
    · rw [if_neg h3, if_neg (by decide), numberAt_eq (by omega), bd_some, w3]
      by_cases hr : hrt u 1 b (u 3 i)
      · rw [heldR_t hN hb (by unfold hrt; rw [o1 1 (by decide)]; exact hr), bd_some, if_neg (by decide), gdN (by omega) (by omega)]
        dsimp only [jn]
        rw [nI_clamp (by omega), o1 0 (by decide)]
        refine ih (i + 1) n _ (by omega) (by omega) (by omega) (fun p hp => by rw [stM_ne hp]; exact o1 p hp) (fun j a c => ?_)
        by_cases e : j = i
        · rw [e, stM_rs, if_pos rfl]
          exact Or.inl ⟨h3, hr, rfl⟩
        · rw [stM_rs, if_neg e, hw1, keep _ j a (by omega)]
          exact h2 j a (by omega)
      · rw [heldR_f hN hb (by unfold hrt; rw [o1 1 (by decide)]; exact hr), bd_some, if_pos rfl]
        refine ih (i + 1) n w1 (by omega) (by omega) (by omega) o1 (fun j a c => ?_)
        by_cases e : j = i
        · rw [e, hw1, stM_rs, if_pos rfl, h1 5 (by decide)]
          exact Or.inr ⟨Or.inr hr, rfl⟩
        · rw [hw1, keep _ j a (by omega)]
          exact h2 j a (by omega)
theorem reach0_eq {N b : Nat} {u : Mem} (hN : 600 ≤ N) (hb : b < 3) : ∃ w, f_Sh_reachFromRootsAndEntries N (nI b) u = some (0, w) ∧ (∀ p, ¬ p = 14 → w p = u p) ∧ ∀ j, 8 * b ≤ j → j < 8 * b + 8 → iniP u b (u 0 7) j (w 14 j) := by
  unfold f_Sh_reachFromRootsAndEntries
  rw [b8']
  exact reach0_loop (κ := fun v => some (0, v)) hN hb 8 (8 * b) N u rfl (by omega) (Nat.le_refl _) (fun _ _ => rfl) (fun j a c => by omega)
/-- a field of y holds what lies in x, both on node b -/
def edge (u : Mem) (b y x : Nat) : Prop := (8 * b ≤ y ∧ y < 8 * b + 8) ∧ (8 * b ≤ x ∧ x < 8 * b + 8) ∧ ¬ u 3 x = 0 ∧ (u 4 (2 * y) = u 3 x ∨ u 4 (2 * y + 1) = u 3 x)
/-- the reached stamps of node b raised along fields: the rest the same, none lower, none above what is closed and above the old, each an old one -/
def upC (u : Mem) (b : Nat) (w w' : Mem) : Prop := (∀ p, ¬ p = 14 → w' p = w p) ∧ (∀ j, 8 * b ≤ j → j < 8 * b + 8 → (w 14 j).toInt ≤ (w' 14 j).toInt) ∧ (∀ g : Nat → Int, (∀ y x, edge u b y x → g y ≤ g x) → (∀ j, 8 * b ≤ j → j < 8 * b + 8 → (w 14 j).toInt ≤ g j) → ∀ j, 8 * b ≤ j → j < 8 * b + 8 → (w' 14 j).toInt ≤ g j) ∧ ∀ Pr : Int32 → Prop, (∀ j, 8 * b ≤ j → j < 8 * b + 8 → Pr (w 14 j)) → ∀ j, 8 * b ≤ j → j < 8 * b + 8 → Pr (w' 14 j)
theorem upC.rf {u : Mem} {b : Nat} {w : Mem} : upC u b w w := ⟨fun _ _ => rfl, fun _ _ _ => Int.le_refl _, fun _ _ h => h, fun _ h => h⟩
theorem upC.tr {u : Mem} {b : Nat} {w w' w'' : Mem} (h : upC u b w w') (h' : upC u b w' w'') : upC u b w w'' := ⟨fun p hp => (h'.1 p hp).trans (h.1 p hp), fun j a c => Int.le_trans (h.2.1 j a c) (h'.2.1 j a c), fun g hg hw => h'.2.2.1 g hg (h.2.2.1 g hg hw), fun Pr hw => h'.2.2.2 Pr (h.2.2.2 Pr hw)⟩
theorem rff {N b y f : Nat} {u w : Mem} (hN : 600 ≤ N) (hb : b < 3) (hd : dist3 u) (hnum : ∀ s, s < 24 → ∃ k, k ≤ 512 ∧ u 3 s = nI k) (hy : 8 * b ≤ y ∧ y < 8 * b + 8) (hf : f < 2) (h3 : w 3 = u 3) (h4 : w 4 = u 4) : ∃ w', f_Sh_reachFromField N (nI b) (nI y) (nI f) w = some (0, w') ∧ upC u b w w' ∧ ∀ x, 8 * b ≤ x → x < 8 * b + 8 → ¬ u 3 x = 0 → u 4 (2 * y + f) = u 3 x → (w 14 y).toInt ≤ (w' 14 x).toInt := by
  unfold f_Sh_reachFromField
  rw [fieldAt_eq (by omega) hf, bd_some, h4]
  by_cases hex : ∃ x, x < 24 ∧ ¬ u 3 x = 0 ∧ u 3 x = u 4 (2 * y + f)
  · obtain ⟨x, x1, x2, x3⟩ := hex
    obtain ⟨k, k1, k2⟩ := hnum x x1
    have k0 : 0 < k := by
      rcases Nat.eq_zero_or_pos k with z | z
      · rw [k2, z] at x2
        exact absurd rfl x2
      · exact z
    have hone : ∀ x', x' < 24 → ¬ u 3 x' = 0 → u 4 (2 * y + f) = u 3 x' → x' = x := fun x' q1 q2 q3 => hd x' x q1 x1 (q3.symm.trans x3.symm) q2
    rw [← x3, k2, slotOf_some hN (by unfold dist3; rw [h3]; exact hd) x1 (by rw [h3]; exact k2) k0 (by omega), bd_some, if_neg (m1_ne (by omega)), nodeOf_eq (by omega), bd_some]
    by_cases hxb : x / 8 = b
    · rw [if_pos (by rw [hxb]), gdN (by omega) (by omega), gdN (by omega) (by omega), gdN (by omega) (by omega)]
      dsimp only [jn]
      rw [nI_clamp (by omega), nI_clamp (by omega)]
      refine ⟨_, rfl, ⟨fun p hp => stM_ne hp, fun j a c => ?_, fun g hg hw j a c => ?_, fun Pr hw j a c => ?_⟩, fun x' q1 q2 q3 q4 => ?_⟩
      · rw [stM_rs]
        by_cases e : j = x
        · rw [if_pos e, e, imx_ti]; split <;> omega
        · rw [if_neg e]; exact Int.le_refl _
      · rw [stM_rs]
        by_cases e : j = x
        · rw [if_pos e, imx_ti]
          have e1 := hw j a c
          have e2 := hw y hy.1 hy.2
          have e3 := hg y x ⟨hy, ⟨by omega, by omega⟩, x2, by
            rcases (show f = 0 ∨ f = 1 by omega) with rfl | rfl
            · exact Or.inl x3.symm
            · exact Or.inr x3.symm⟩
          rw [e] at e1 ⊢
          split <;> omega
        · rw [if_neg e]; exact hw j a c
      · rw [stM_rs]
        by_cases e : j = x
        · rw [if_pos e]
          unfold imx
          split
          · exact hw y hy.1 hy.2
          · exact hw x (by omega) (by omega)
        · rw [if_neg e]; exact hw j a c
      · have e := hone x' (by omega) q3 ((x3.symm.trans k2).trans q4)
        rw [stM_rs, if_pos e, imx_ti]
        split <;> omega
    · rw [if_neg (nI_ne hxb (by omega) (by omega))]
      refine ⟨_, rfl, upC.rf, fun x' q1 q2 q3 q4 => ?_⟩
      have e := hone x' (by omega) q3 ((x3.symm.trans k2).trans q4)
      omega
  · have hno : ∀ s, s < 24 → w 3 s = u 4 (2 * y + f) → u 4 (2 * y + f) = 0 := by
      intro s hs e
      rw [h3] at e
      by_cases z : u 3 s = 0
      · rw [← e, z]
      · exact absurd ⟨s, hs, z, e⟩ hex
    rw [slotOf_no hN hno, bd_some, if_pos rfl]
    refine ⟨_, rfl, upC.rf, fun x' q1 q2 q3 q4 => ?_⟩
    exact absurd ⟨x', by omega, q3, q4.symm⟩ hex
/-- the two fields of a slot -/
theorem pass_f {N b y : Nat} {κ : Int32 → Int32 → Int32 → Mem → Rs} {x9 : Int32} {u w : Mem} (hN : 600 ≤ N) (hb : b < 3) (hd : dist3 u) (hnum : ∀ s, s < 24 → ∃ k, k ≤ 512 ∧ u 3 s = nI k) (hy : 8 * b ≤ y ∧ y < 8 * b + 8) (h3 : w 3 = u 3) (h4 : w 4 = u 4) : ∃ w', k_Sh_reachAlongFields_26 N κ N (nI b) x9 (nI y) 0 w = κ (nI b) x9 (nI y) w' ∧ upC u b w w' ∧ ∀ x, edge u b y x → (w 14 y).toInt ≤ (w' 14 x).toInt := by
  obtain ⟨w1, a1, a2, a3⟩ := rff (f := 0) hN hb hd hnum hy (by omega) h3 h4
  obtain ⟨w2, c1, c2, c3⟩ := rff (f := 1) (w := w1) hN hb hd hnum hy (by omega) ((a2.1 3 (by decide)).trans h3) ((a2.1 4 (by decide)).trans h4)
  obtain ⟨N1, f1, -⟩ := succ_of (show 2 < N by omega)
  obtain ⟨N2, f2, -⟩ := succ_of (show 1 < N1 by omega)
  obtain ⟨N3, f3, -⟩ := succ_of (show 0 < N2 by omega)
  have eN : N = N3 + 1 + 1 + 1 := by omega
  refine ⟨w2, ?_, a2.tr c2, fun x hx => ?_⟩
  · have key : k_Sh_reachAlongFields_26 N κ (N3 + 1 + 1 + 1) (nI b) x9 (nI y) 0 w = κ (nI b) x9 (nI y) w2 := by
      rw [k_Sh_reachAlongFields_26, if_neg (by decide), show f_Sh_reachFromField N (nI b) (nI y) 0 w = _ from a1, bd_some, k_Sh_reachAlongFields_26, if_neg (by decide), show f_Sh_reachFromField N (nI b) (nI y) (0 + 1) w1 = _ from c1, bd_some, k_Sh_reachAlongFields_26, if_pos (by decide)]
    rw [show k_Sh_reachAlongFields_26 N κ N (nI b) x9 (nI y) 0 w = k_Sh_reachAlongFields_26 N κ (N3 + 1 + 1 + 1) (nI b) x9 (nI y) 0 w from by rw [← eN]]
    exact key
  · obtain ⟨-, ⟨x1, x2⟩, x3, x4⟩ := hx
    rcases x4 with x4 | x4
    · exact Int.le_trans (a3 x x1 x2 x3 x4) (c2.2.1 x x1 x2)
    · exact Int.le_trans (a2.2.1 y hy.1 hy.2) (c3 x x1 x2 x3 x4)
/-- one pass over the slots -/
theorem pass_s {N b : Nat} {κ : Int32 → Int32 → Mem → Rs} {x5 : Int32} {u w0 : Mem} (hN : 600 ≤ N) (hb : b < 3) (hd : dist3 u) (hnum : ∀ s, s < 24 → ∃ k, k ≤ 512 ∧ u 3 s = nI k) : ∀ (d i n : Nat) (w : Mem), i + d = 8 * b + 8 → d < n → 8 * b ≤ i → w 3 = u 3 → w 4 = u 4 → upC u b w0 w → (∀ y x, edge u b y x → y < i → (w0 14 y).toInt ≤ (w 14 x).toInt) → ∃ w', k_Sh_reachAlongFields_13 N κ n (nI b) x5 (nI i) w = κ (nI b) x5 w' ∧ upC u b w0 w' ∧ w' 3 = u 3 ∧ w' 4 = u 4 ∧ ∀ y x, edge u b y x → (w0 14 y).toInt ≤ (w' 14 x).toInt := by
  intro d
  induction d with
  | zero =>
    intro i n w hi hn hlo h3 h4 hup hst
    obtain ⟨n, rfl, hn⟩ := succ_of hn
    refine ⟨w, ?_, hup, h3, h4, fun y x hx => hst y x hx (by have := hx.1.2; omega)⟩
    rw [k_Sh_reachAlongFields_13, b8, if_pos (nI_le (by omega) (by omega))]
  | succ d ih =>
    intro i n w hi hn hlo h3 h4 hup hst
    obtain ⟨n, rfl, hn⟩ := succ_of hn
    obtain ⟨w1, a1, a2, a3⟩ := pass_f (N := N) (b := b) (y := i) (κ := fun (x17 x18 x19 : Int32) (u20 : Mem) => k_Sh_reachAlongFields_13 N κ n x17 x18 (x19 + 1) u20) (x9 := x5) (w := w) hN hb hd hnum ⟨hlo, by omega⟩ h3 h4
    obtain ⟨w', b1, b2, b3, b4, b5⟩ := ih (i + 1) n w1 (by omega) (by omega) (by omega) ((a2.1 3 (by decide)).trans h3) ((a2.1 4 (by decide)).trans h4) (hup.tr a2) (fun y x hx hy => by
      by_cases e : y = i
      · rw [e] at hx ⊢
        exact Int.le_trans (hup.2.1 i hlo (by omega)) (a3 x hx)
      · have q := hst y x hx (by omega)
        have q2 := a2.2.1 x hx.2.1.1 hx.2.1.2
        omega)
    refine ⟨w', ?_, b2, b3, b4, b5⟩
    rw [k_Sh_reachAlongFields_13, b8, if_neg (nI_ge (by omega) (by omega)), a1, nI_1]
    exact b1
/-- the passes: what is least above the beginning and closed is reached -/
theorem passes {N b : Nat} {κ : Mem → Rs} {u w0 : Mem} {Lf : Nat → Int} (hN : 600 ≤ N) (hb : b < 3) (hd : dist3 u) (hnum : ∀ s, s < 24 → ∃ k, k ≤ 512 ∧ u 3 s = nI k) (hfix : ∀ y x, edge u b y x → Lf y ≤ Lf x) (hge : ∀ j, 8 * b ≤ j → j < 8 * b + 8 → (w0 14 j).toInt ≤ Lf j) (hleast : ∀ g : Nat → Int, (∀ j, 8 * b ≤ j → j < 8 * b + 8 → (w0 14 j).toInt ≤ g j) → (∀ y x, edge u b y x → g y ≤ g x) → ∀ j, 8 * b ≤ j → j < 8 * b + 8 → Lf j ≤ g j) :
    ∀ (d p n : Nat) (w : Mem), p + d = 8 → d < n → 1 ≤ p → w 3 = u 3 → w 4 = u 4 → upC u b w0 w → gxS (fun i => (w 14 (8 * b + i)).toInt) (fun i => Lf (8 * b + i)) 8 p → ∃ w', k_Sh_reachAlongFields_2 N κ n (nI b) (nI p) w = κ w' ∧ upC u b w0 w' ∧ ∀ j, 8 * b ≤ j → j < 8 * b + 8 → (w' 14 j).toInt = Lf j := by
  have hE : ∀ y x, edge u b (8 * b + y) (8 * b + x) → y < 8 ∧ x < 8 := fun y x h => ⟨by have := h.1.2; omega, by have := h.2.1.2; omega⟩
  have hl8 : ∀ g : Nat → Int, (∀ i, i < 8 → (w0 14 (8 * b + i)).toInt ≤ g i) → (∀ y x, edge u b (8 * b + y) (8 * b + x) → g y ≤ g x) → ∀ i, i < 8 → Lf (8 * b + i) ≤ g i := by
    intro g g1 g2 i hi
    have := hleast (fun j => g (j - 8 * b)) (fun j a c => by
      have := g1 (j - 8 * b) (by omega)
      rw [show 8 * b + (j - 8 * b) = j by omega] at this
      exact this) (fun y x h => g2 (y - 8 * b) (x - 8 * b) (by
      have h1 := h.1
      have h2 := h.2.1
      rw [show 8 * b + (y - 8 * b) = y by omega, show 8 * b + (x - 8 * b) = x by omega]
      exact h)) (8 * b + i) (by omega) (by omega)
    rw [show 8 * b + i - 8 * b = i by omega] at this
    exact this
  intro d
  induction d with
  | zero =>
    intro p n w hp hn h1 h3 h4 hup hS
    obtain ⟨n, rfl, hn⟩ := succ_of hn
    have hp8 : p = 8 := by omega
    subst hp8
    refine ⟨w, ?_, hup, fun j a c => ?_⟩
    · rw [k_Sh_reachAlongFields_2, if_pos (show (8 : Int32) ≤ nI 8 by decide)]
    · have := gx_end hS (j - 8 * b) (by omega)
      simp only [show 8 * b + (j - 8 * b) = j by omega] at this
      exact this
  | succ d ih =>
    intro p n w hp hn h1 h3 h4 hup hS
    obtain ⟨n, rfl, hn⟩ := succ_of hn
    obtain ⟨w1, a1, a2, a3, a4, a5⟩ := pass_s (N := N) (b := b) (κ := fun (x22 x23 : Int32) (u24 : Mem) => k_Sh_reachAlongFields_2 N κ n x22 (x23 + 1) u24) (x5 := nI p) (w0 := w) hN hb hd hnum 8 (8 * b) N w rfl (by omega) (Nat.le_refl _) h3 h4 upC.rf (fun y x hx hy => by have := hx.1.1; omega)
    have hup1 := hup.tr a2
    obtain ⟨w', b1, b2, b3⟩ := ih (p + 1) n w1 (by omega) (by omega) (by omega) a3 a4 hup1 (gx_next (E := fun y x => edge u b (8 * b + y) (8 * b + x)) (init := fun i => (w0 14 (8 * b + i)).toInt) hS hE (fun i hi => hup.2.1 _ (by omega) (by omega)) (fun i hi => a2.2.1 _ (by omega) (by omega)) (fun i hi => hup.2.2.1 Lf hfix hge _ (by omega) (by omega)) (fun i hi => hup1.2.2.1 Lf hfix hge _ (by omega) (by omega)) (fun y x h => a5 _ _ h) hl8 (fun y x h => hfix _ _ h))
    refine ⟨w', ?_, b2, b3⟩
    rw [k_Sh_reachAlongFields_2, if_neg (show ¬ (8 : Int32) ≤ nI p from nI_ge (b := 8) (by omega) (by omega)), b8', a1, nI_1]
    exact b1
theorem along_eq {N b : Nat} {u w0 : Mem} {Lf : Nat → Int} (hN : 600 ≤ N) (hb : b < 3) (hd : dist3 u) (hnum : ∀ s, s < 24 → ∃ k, k ≤ 512 ∧ u 3 s = nI k) (h3 : w0 3 = u 3) (h4 : w0 4 = u 4) (hfix : ∀ y x, edge u b y x → Lf y ≤ Lf x) (hge : ∀ j, 8 * b ≤ j → j < 8 * b + 8 → (w0 14 j).toInt ≤ Lf j) (hleast : ∀ g : Nat → Int, (∀ j, 8 * b ≤ j → j < 8 * b + 8 → (w0 14 j).toInt ≤ g j) → (∀ y x, edge u b y x → g y ≤ g x) → ∀ j, 8 * b ≤ j → j < 8 * b + 8 → Lf j ≤ g j) :
    ∃ w', f_Sh_reachAlongFields N (nI b) w0 = some (0, w') ∧ upC u b w0 w' ∧ ∀ j, 8 * b ≤ j → j < 8 * b + 8 → (w' 14 j).toInt = Lf j := by
  unfold f_Sh_reachAlongFields
  refine passes (κ := fun v => some (0, v)) hN hb hd hnum hfix hge hleast 7 1 N w0 rfl (by omega) (Nat.le_refl _) h3 h4 upC.rf ?_
  refine gx_zero (E := fun y x => edge u b (8 * b + y) (8 * b + x)) (init := fun i => (w0 14 (8 * b + i)).toInt) (fun y x h => ⟨by have := h.1.2; omega, by have := h.2.1.2; omega⟩) (fun i hi => Int.le_refl _) (fun i hi => hge _ (by omega) (by omega)) ?_ (fun y x h => hfix _ _ h)
  intro g g1 g2 i hi
  have := hleast (fun j => g (j - 8 * b)) (fun j a c => by
    have := g1 (j - 8 * b) (by omega)
    rw [show 8 * b + (j - 8 * b) = j by omega] at this
    exact this) (fun y x h => g2 (y - 8 * b) (x - 8 * b) (by
    have h1 := h.1
    have h2 := h.2.1
    rw [show 8 * b + (y - 8 * b) = y by omega, show 8 * b + (x - 8 * b) = x by omega]
    exact h)) (8 * b + i) (by omega) (by omega)
  rw [show 8 * b + i - 8 * b = i by omega] at this
  exact this
