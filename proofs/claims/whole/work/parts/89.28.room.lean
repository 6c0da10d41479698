/-! Pure: there is room for a new row of exits. -/
theorem cnF_mono {P Q : Nat → Prop} [DecidablePred P] [DecidablePred Q] {i d : Nat} (h : ∀ x, i ≤ x → x < i + d → P x → Q x) : cnF P i d ≤ cnF Q i d :=
  cnF_inj (fun x => x) i d d i Q (fun x a b hx => ⟨a, b, h x a b hx⟩) (fun _ _ _ _ _ _ _ _ e => e)
theorem cnF_all {P : Nat → Prop} [DecidablePred P] : ∀ (d i : Nat), (∀ x, i ≤ x → x < i + d → P x) → cnF P i d = d := by
  intro d
  induction d with
  | zero => intro i _; rfl
  | succ d ih =>
    intro i h
    unfold cnF
    rw [if_pos (h i (by omega) (by omega)), ih (i + 1) (fun x a b => h x (by omega) (by omega))]
    omega
theorem nodes16 {b : Nat} (hb : b < 3) : cnF (fun s => ¬ s / 8 = b) 0 24 = 16 := by
  rcases (show b = 0 ∨ b = 1 ∨ b = 2 by omega) with rfl | rfl | rfl <;> decide
/-- fresh rows of a node: as many at most as there are slots on other nodes with a property that their slots have -/
theorem fresh_le {c t M S X b : Nat} {u : Mem} (h : SA c t M S X u) (hb : b < 3) (T : Nat → Prop) [DecidablePred T] (hT : ∀ i s, i < X → u 7 i = nI b → s < 24 → u 3 s = u 8 i → ¬ s / 8 = b → T s) : cnF (fun i => u 7 i = nI b ∧ ¬ (u 9 i).toInt ≤ (u 12 b).toInt) 0 X ≤ cnF T 0 24 := by
  have hM := h.1.1
  obtain ⟨x1, x2, x3, x4, x5⟩ := h.2.2.2.2.2
  have hex : ∀ i, ∃ s, i < X → u 7 i = nI b → ¬ (u 9 i).toInt ≤ (u 12 b).toInt → s < 24 ∧ u 3 s = u 8 i ∧ ¬ s / 8 = b := by
    intro i
    by_cases q : i < X ∧ u 7 i = nI b ∧ ¬ (u 9 i).toInt ≤ (u 12 b).toInt
    · obtain ⟨b2, k, b1, k1, k2, g7, g8, g20, g9, g10, gf⟩ := x1 i q.1
      have e : b2 = b := nI_inj (g7.symm.trans q.2.1) (by omega) (by omega)
      subst e
      have q3 := q.2.2
      obtain ⟨s, s1, s2, s3, -⟩ := gf (by omega)
      exact ⟨s, fun _ _ _ => ⟨s1, s2.trans g8.symm, s3⟩⟩
    · exact ⟨0, fun a1 a2 a3 => absurd ⟨a1, a2, a3⟩ q⟩
  obtain ⟨g, hg⟩ := Classical.axiomOfChoice hex
  refine cnF_inj g 0 24 X 0 T (fun i _ a2 a3 => ?_) (fun i j _ a2 _ a4 p1 p2 e => ?_)
  · obtain ⟨s1, s2, s3⟩ := hg i (by omega) a3.1 a3.2
    exact ⟨Nat.zero_le _, by omega, hT i (g i) (by omega) a3.1 s1 s2 s3⟩
  · obtain ⟨s1, s2, s3⟩ := hg i (by omega) p1.1 p1.2
    obtain ⟨s1', s2', s3'⟩ := hg j (by omega) p2.1 p2.2
    rw [e] at s2
    exact x3 i j (by omega) (by omega) (p1.1.trans p2.1.symm) (s2.symm.trans s2')
theorem three {c t M S X : Nat} {u : Mem} (h : SA c t M S X u) : X ≤ cnF (fun i => u 7 i = nI 0) 0 X + cnF (fun i => u 7 i = nI 1) 0 X + cnF (fun i => u 7 i = nI 2) 0 X := by
  obtain ⟨x1, -⟩ := h.2.2.2.2.2
  have a1 := cnF_split (P := fun _ => True) (Q := fun i => u 7 i = nI 0) X 0
  have a2 := cnF_split (P := fun i => True ∧ ¬ u 7 i = nI 0) (Q := fun i => u 7 i = nI 1) X 0
  have a0 := cnF_all (P := fun _ => True) X 0 (fun _ _ _ => trivial)
  have b0 : cnF (fun i => True ∧ u 7 i = nI 0) 0 X ≤ cnF (fun i => u 7 i = nI 0) 0 X := cnF_mono (fun _ _ _ z => z.2)
  have b1 : cnF (fun i => (True ∧ ¬ u 7 i = nI 0) ∧ u 7 i = nI 1) 0 X ≤ cnF (fun i => u 7 i = nI 1) 0 X := cnF_mono (fun _ _ _ z => z.2)
  have b2 : cnF (fun i => (True ∧ ¬ u 7 i = nI 0) ∧ ¬ u 7 i = nI 1) 0 X ≤ cnF (fun i => u 7 i = nI 2) 0 X := cnF_mono (fun i _ i2 z => by
    obtain ⟨b, k, hb, -, -, g7, -⟩ := x1 i (by omega)
    rcases (show b = 0 ∨ b = 1 ∨ b = 2 by omega) with rfl | rfl | rfl
    · exact absurd g7 z.1.2
    · exact absurd g7 z.2
    · exact g7)
  omega
theorem node_rows {c t M S X b n : Nat} {u : Mem} (h : SA c t M S X u) (hb : b < 3) (hn : cnF (fun i => u 7 i = nI b ∧ ¬ (u 9 i).toInt ≤ (u 12 b).toInt) 0 X ≤ n) : cnF (fun i => u 7 i = nI b) 0 X ≤ 19 + n := by
  obtain ⟨-, -, -, -, x5⟩ := h.2.2.2.2.2
  have a := cnF_split (P := fun i => u 7 i = nI b) (Q := fun i => (u 9 i).toInt ≤ (u 12 b).toInt) X 0
  have b := x5 b hb
  omega
theorem room {c t M S X s k b : Nat} {u : Mem} (h : SA c t M S X u) (hs : s < 24) (hk : 1 ≤ k) (hk2 : k ≤ M) (h3 : u 3 s = nI k) (hb : b < 3) (hne : ¬ b = s / 8) (hno : ∀ j, j < X → ¬ (u 7 j = nI b ∧ u 8 j = nI k)) : X < 105 := by
  have hM := h.1.1
  have gen : ∀ n, n < 3 → cnF (fun i => u 7 i = nI n) 0 X ≤ 35 := by
    intro n hn
    have a := fresh_le h hn (fun s => ¬ s / 8 = n) (fun _ _ _ _ _ _ z => z)
    rw [nodes16 hn] at a
    exact node_rows h hn a
  have own : cnF (fun i => u 7 i = nI b) 0 X ≤ 34 := by
    have a := fresh_le h hb (fun x => ¬ x / 8 = b ∧ ¬ x = s) (fun i x i1 i2 x1 x2 x3 => ⟨x3, fun z => hno i i1 ⟨i2, by rw [← x2, z, h3]⟩⟩)
    have e := cnF_less (Q := fun x => ¬ x / 8 = b) s 24 0 (Nat.zero_le _) (by omega) (fun z => hne z.symm)
    rw [nodes16 hb] at e
    have := node_rows h hb a
    omega
  have t3 := three h
  have g0 := gen 0 (by omega)
  have g1 := gen 1 (by omega)
  have g2 := gen 2 (by omega)
  rcases (show b = 0 ∨ b = 1 ∨ b = 2 by omega) with rfl | rfl | rfl <;> omega
