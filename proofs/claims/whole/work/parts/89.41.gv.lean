/-! Pure: the stamp with which an exit is reached. -/
def hC (w : Mem) (j : Nat) (o : Int32) : Prop := w 4 (2 * j) = o ∨ w 4 (2 * j + 1) = o
theorem heldF_t {N s : Nat} {o : Int32} {u : Mem} (hN : 600 ≤ N) (hs : s < 24) (h : hC u s o) : f_Hp_isHeldByField N (nI s) o u = some (1, u) := by
  obtain ⟨N1, f1, -⟩ := succ_of (show 2 < N by omega)
  obtain ⟨N2, f2, -⟩ := succ_of (show 1 < N1 by omega)
  obtain ⟨N3, f3, -⟩ := succ_of (show 0 < N2 by omega)
  have eN : N = N3 + 1 + 1 + 1 := by omega
  have a0 : f_Hp_fieldAt N (nI s) 0 u = some (u 4 (2 * s), u) := fieldAt_eq (f := 0) hs (by omega)
  have a1 : f_Hp_fieldAt N (nI s) (0 + 1) u = some (u 4 (2 * s + 1), u) := fieldAt_eq (f := 1) hs (by omega)
  have key : ∀ κ : Mem → Rs, k_Hp_isHeldByField_2 N κ (N3 + 1 + 1 + 1) (nI s) o 0 u = some (1, u) := by
    intro κ
    rw [k_Hp_isHeldByField_2, if_neg (by decide), a0, bd_some]
    by_cases h0 : u 4 (2 * s) = o
    · rw [if_pos h0]
    · rw [if_neg h0, k_Hp_isHeldByField_2, if_neg (by decide), a1, bd_some, if_pos (h.elim (fun z => absurd z h0) id)]
  unfold f_Hp_isHeldByField
  rw [show ∀ κ, k_Hp_isHeldByField_2 N κ N (nI s) o 0 u = k_Hp_isHeldByField_2 N κ (N3 + 1 + 1 + 1) (nI s) o 0 u from fun κ => by rw [← eN]]
  exact key _
theorem heldF_f {N s : Nat} {o : Int32} {u : Mem} (hN : 600 ≤ N) (hs : s < 24) (h : ¬ hC u s o) : f_Hp_isHeldByField N (nI s) o u = some (0, u) := by
  obtain ⟨N1, f1, -⟩ := succ_of (show 2 < N by omega)
  obtain ⟨N2, f2, -⟩ := succ_of (show 1 < N1 by omega)
  obtain ⟨N3, f3, -⟩ := succ_of (show 0 < N2 by omega)
  have eN : N = N3 + 1 + 1 + 1 := by omega
  have a0 : f_Hp_fieldAt N (nI s) 0 u = some (u 4 (2 * s), u) := fieldAt_eq (f := 0) hs (by omega)
  have a1 : f_Hp_fieldAt N (nI s) (0 + 1) u = some (u 4 (2 * s + 1), u) := fieldAt_eq (f := 1) hs (by omega)
  have key : ∀ κ : Mem → Rs, k_Hp_isHeldByField_2 N κ (N3 + 1 + 1 + 1) (nI s) o 0 u = κ u := by
    intro κ
    rw [k_Hp_isHeldByField_2, if_neg (by decide), a0, bd_some, if_neg (fun z => h (Or.inl z)), k_Hp_isHeldByField_2, if_neg (by decide), a1, bd_some, if_neg (fun z => h (Or.inr z)), k_Hp_isHeldByField_2, if_pos (by decide)]
  unfold f_Hp_isHeldByField
  rw [show ∀ κ, k_Hp_isHeldByField_2 N κ N (nI s) o 0 u = k_Hp_isHeldByField_2 N κ (N3 + 1 + 1 + 1) (nI s) o 0 u from fun κ => by rw [← eN]]
  exact key _
theorem roe_loop {N b : Nat} {κ : Int32 → Mem → Rs} {o : Int32} {u : Mem} (hN : 600 ≤ N) (hb : b < 3) : ∀ (d i n : Nat) (v : Int32), i + d = 8 * b + 8 → d < n → 8 * b ≤ i → ∃ v', k_Sh_reachOfExit_22 N κ n (nI b) o v (nI i) u = κ v' u ∧ v.toInt ≤ v'.toInt ∧ (∀ j, i ≤ j → j < 8 * b + 8 → hC u j o → (u 14 j).toInt ≤ v'.toInt) ∧ (v' = v ∨ ∃ j, i ≤ j ∧ j < 8 * b + 8 ∧ hC u j o ∧ v' = u 14 j) := by
  intro d
  induction d with
  | zero =>
    intro i n v hi hn hlo
    obtain ⟨n, rfl, hn⟩ := succ_of hn
    refine ⟨v, ?_, Int.le_refl _, fun j a c => by omega, Or.inl rfl⟩
    rw [k_Sh_reachOfExit_22, b8, if_pos (nI_le (by omega) (by omega))]
  | succ d ih =>
    intro i n v hi hn hlo
    obtain ⟨n, rfl, hn⟩ := succ_of hn
    by_cases hh : hC u i o
    · obtain ⟨v', a1, a2, a3, a4⟩ := ih (i + 1) n (imx v (u 14 i)) (by omega) (by omega) (by omega)
      have m1 : v.toInt ≤ (imx v (u 14 i)).toInt ∧ (u 14 i).toInt ≤ (imx v (u 14 i)).toInt := by
        rw [imx_ti]; split <;> omega
      refine ⟨v', ?_, by omega, fun j c1 c2 c3 => ?_, ?_⟩
      · rw [k_Sh_reachOfExit_22, b8, if_neg (nI_ge (by omega) (by omega)), heldF_t hN (by omega) hh, bd_some, if_neg (by decide), gdN (by omega) (by omega), nI_clamp (by omega), nI_1]
        exact a1
      · by_cases e : j = i
        · rw [e]; omega
        · exact a3 j (by omega) c2 c3
      · rcases a4 with a4 | ⟨j, j1, j2, j3, j4⟩
        · rw [a4]
          unfold imx
          split
          · exact Or.inr ⟨i, Nat.le_refl _, by omega, hh, rfl⟩
          · exact Or.inl rfl
        · exact Or.inr ⟨j, by omega, j2, j3, j4⟩
    · obtain ⟨v', a1, a2, a3, a4⟩ := ih (i + 1) n v (by omega) (by omega) (by omega)
      refine ⟨v', ?_, a2, fun j c1 c2 c3 => ?_, ?_⟩
      · rw [k_Sh_reachOfExit_22, b8, if_neg (nI_ge (by omega) (by omega)), heldF_f hN (by omega) hh, bd_some, if_pos rfl, nI_1]
        exact a1
      · by_cases e : j = i
        · rw [e] at c3; exact absurd c3 hh
        · exact a3 j (by omega) c2 c3
      · rcases a4 with a4 | ⟨j, j1, j2, j3, j4⟩
        · exact Or.inl a4
        · exact Or.inr ⟨j, by omega, j2, j3, j4⟩
/-- v is the greatest stamp with which o is reached on node b -/
def gvC (w : Mem) (b : Nat) (o v : Int32) : Prop := (hrt w 1 b o ∧ v = w 0 7) ∨ (¬ hrt w 1 b o ∧ -1 ≤ v.toInt ∧ (∀ j, 8 * b ≤ j → j < 8 * b + 8 → hC w j o → (w 14 j).toInt ≤ v.toInt) ∧ (v = -1 ∨ ∃ j, 8 * b ≤ j ∧ j < 8 * b + 8 ∧ hC w j o ∧ v = w 14 j))
theorem gvC_one {w : Mem} {b : Nat} {o v v' : Int32} (hge : ∀ j, 8 * b ≤ j → j < 8 * b + 8 → -1 ≤ (w 14 j).toInt) (h : gvC w b o v) (h' : gvC w b o v') : v = v' := by
  rcases h with ⟨a, e⟩ | ⟨a, a1, a2, a3⟩
  · rcases h' with ⟨a', e'⟩ | ⟨a', -⟩
    · rw [e, e']
    · exact absurd a a'
  · rcases h' with ⟨a', e'⟩ | ⟨a', c1, c2, c3⟩
    · exact absurd a' a
    · rw [ti_eq]
      apply Int.le_antisymm
      · rcases a3 with e | ⟨j, j1, j2, j3, j4⟩
        · rw [e, m1_ti]; exact c1
        · rw [j4]; exact c2 j j1 j2 j3
      · rcases c3 with e | ⟨j, j1, j2, j3, j4⟩
        · rw [e, m1_ti]; exact a1
        · rw [j4]; exact a2 j j1 j2 j3
theorem roe_eq {N b : Nat} {o : Int32} {w : Mem} (hN : 600 ≤ N) (hb : b < 3) : ∃ v, f_Sh_reachOfExit N (nI b) o w = some (v, w) ∧ gvC w b o v := by
  unfold f_Sh_reachOfExit
  by_cases h : hrt w 1 b o
  · refine ⟨w 0 7, ?_, Or.inl ⟨h, rfl⟩⟩
    rw [heldR_t hN hb h, bd_some, if_neg (by decide)]
  · obtain ⟨v', a1, a2, a3, a4⟩ := roe_loop (N := N) (κ := fun x v => some (x, v)) (o := o) (u := w) hN hb 8 (8 * b) N (-1) rfl (by omega) (Nat.le_refl _)
    refine ⟨v', ?_, Or.inr ⟨h, by rw [m1_ti] at a2; exact a2, a3, a4⟩⟩
    rw [heldR_f hN hb h, bd_some, if_pos rfl, b8']
    exact a1
theorem gvC_cong {w w' : Mem} {b : Nat} {o v : Int32} (h0 : w' 0 = w 0) (h1 : w' 1 = w 1) (h4 : w' 4 = w 4) (h14 : w' 14 = w 14) (h : gvC w b o v) : gvC w' b o v := by
  unfold gvC hrt hC at h ⊢
  rw [h0, h1, h4, h14]
  exact h
def hM (m : Mem) (b k : Nat) (o : Int32) : Prop := m 16 k = nI b ∧ (m 18 (2 * k) = o ∨ m 18 (2 * k + 1) = o)
theorem reaches_loop {N M b : Nat} {κ : Int32 → Mem → Rs} {o : Int32} {m : Mem} (hb : b < 3) (hM1 : m 15 1 = nI M) (hM2 : M ≤ 512) : ∀ (d i n : Nat) (v : Int32), i + d = M + 1 → d < n → 1 ≤ i → ∃ v', k_Md_reaches_21 N κ n (nI b) o v (nI i) m = κ v' m ∧ v.toInt ≤ v'.toInt ∧ (∀ k, i ≤ k → k ≤ M → hM m b k o → (m 24 k).toInt ≤ v'.toInt) ∧ (v' = v ∨ ∃ k, i ≤ k ∧ k ≤ M ∧ hM m b k o ∧ v' = m 24 k) := by
  intro d
  induction d with
  | zero =>
    intro i n v hi hn hlo
    obtain ⟨n, rfl, hn⟩ := succ_of hn
    refine ⟨v, ?_, Int.le_refl _, fun j a c => by omega, Or.inl rfl⟩
    rw [k_Md_reaches_21, hM1, if_pos (nI_lt (by omega) (by omega))]
  | succ d ih =>
    intro i n v hi hn hlo
    obtain ⟨n, rfl, hn⟩ := succ_of hn
    have e2 : 2 * nI i = nI (2 * i) := pk_mul 2 i
    have e3 : nI (2 * i) + 1 = nI (2 * i + 1) := nI_1 _
    have hstep : k_Md_reaches_21 N κ (n + 1) (nI b) o v (nI i) m = if m 16 i = nI b then (if m 18 (2 * i) = o then (if m 24 i ≤ v then k_Md_reaches_21 N κ n (nI b) o v (nI (i + 1)) m else k_Md_reaches_21 N κ n (nI b) o (m 24 i) (nI (i + 1)) m) else (if m 18 (2 * i + 1) = o then (if m 24 i ≤ v then k_Md_reaches_21 N κ n (nI b) o v (nI (i + 1)) m else k_Md_reaches_21 N κ n (nI b) o (m 24 i) (nI (i + 1)) m) else k_Md_reaches_21 N κ n (nI b) o v (nI (i + 1)) m)) else k_Md_reaches_21 N κ n (nI b) o v (nI (i + 1)) m := by
      rw [k_Md_reaches_21, hM1, if_neg (nI_nlt (by omega) (by omega)), gdN (by omega) (by omega), e2, e3]
      dsimp only [jn]
      rw [if_neg (show ¬ (1 : Int32) = 0 by decide), if_pos (show (0 : Int32) = 0 from rfl)]
      simp (disch := omega) only [nI_clamp, gdN, nI_1]
    by_cases hh : hM m b i o ∧ ¬ m 24 i ≤ v
    · obtain ⟨v', a1, a2, a3, a4⟩ := ih (i + 1) n (m 24 i) (by omega) (by omega) (by omega)
      have hlt := hh.2
      rw [ti_le] at hlt
      refine ⟨v', ?_, by omega, fun j c1 c2 c3 => ?_, ?_⟩
      · rw [hstep, if_pos hh.1.1]
        by_cases h0 : m 18 (2 * i) = o
        · rw [if_pos h0, if_neg hh.2]; exact a1
        · rw [if_neg h0, if_pos (hh.1.2.elim (fun z => absurd z h0) id), if_neg hh.2]; exact a1
      · by_cases e : j = i
        · rw [e]; exact a2
        · exact a3 j (by omega) c2 c3
      · rcases a4 with a4 | ⟨j, j1, j2, j3, j4⟩
        · exact Or.inr ⟨i, Nat.le_refl _, by omega, hh.1, a4⟩
        · exact Or.inr ⟨j, by omega, j2, j3, j4⟩
    · obtain ⟨v', a1, a2, a3, a4⟩ := ih (i + 1) n v (by omega) (by omega) (by omega)
      refine ⟨v', ?_, a2, fun j c1 c2 c3 => ?_, ?_⟩
      · rw [hstep]
        by_cases ho : m 16 i = nI b
        · rw [if_pos ho]
          by_cases h0 : m 18 (2 * i) = o
          · rw [if_pos h0, if_pos (Classical.byContradiction (fun z => hh ⟨⟨ho, Or.inl h0⟩, z⟩))]; exact a1
          · rw [if_neg h0]
            by_cases h1 : m 18 (2 * i + 1) = o
            · rw [if_pos h1, if_pos (Classical.byContradiction (fun z => hh ⟨⟨ho, Or.inr h1⟩, z⟩))]; exact a1
            · rw [if_neg h1]; exact a1
        · rw [if_neg ho]; exact a1
      · by_cases e : j = i
        · rw [e] at c3 ⊢
          have : m 24 i ≤ v := Classical.byContradiction (fun z => hh ⟨c3, z⟩)
          rw [ti_le] at this
          omega
        · exact a3 j (by omega) c2 c3
      · rcases a4 with a4 | ⟨j, j1, j2, j3, j4⟩
        · exact Or.inl a4
        · exact Or.inr ⟨j, by omega, j2, j3, j4⟩
theorem reaches_eq {N M b : Nat} {o : Int32} {m : Mem} (hN : 600 ≤ N) (hb : b < 3) (hM1 : m 15 1 = nI M) (hM2 : M ≤ 512) : ∃ v0 v, f_Md_reaches N (nI b) o m = some (v, m) ∧ ((hrt m 19 b o ∧ v0 = m 15 0) ∨ (¬ hrt m 19 b o ∧ v0 = -1)) ∧ v0.toInt ≤ v.toInt ∧ (∀ k, 1 ≤ k → k ≤ M → hM m b k o → (m 24 k).toInt ≤ v.toInt) ∧ (v = v0 ∨ ∃ k, 1 ≤ k ∧ k ≤ M ∧ hM m b k o ∧ v = m 24 k) := by
  unfold f_Md_reaches
  dsimp only [jn]
  by_cases h : hrt m 19 b o
  · obtain ⟨v', a1, a2, a3, a4⟩ := reaches_loop (N := N) (κ := fun x v => some (x, v)) (o := o) hb hM1 hM2 M 1 N (m 15 0) (by omega) (by omega) (Nat.le_refl _)
    refine ⟨m 15 0, v', ?_, Or.inl ⟨h, rfl⟩, a2, a3, a4⟩
    rw [(rootsM hb).1 h, bd_some, if_neg (by decide)]
    exact a1
  · obtain ⟨v', a1, a2, a3, a4⟩ := reaches_loop (N := N) (κ := fun x v => some (x, v)) (o := o) hb hM1 hM2 M 1 N (-1) (by omega) (by omega) (Nat.le_refl _)
    refine ⟨-1, v', ?_, Or.inr ⟨h, rfl⟩, a2, a3, a4⟩
    rw [(rootsM hb).2 h, bd_some, if_pos rfl]
    exact a1
