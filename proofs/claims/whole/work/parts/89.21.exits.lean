/-! Pure: the rows of exits. -/
theorem rowOf_loop {N X : Nat} {κ : Mem → Rs} {a o : Int32} {u : Mem} (hX : u 6 3 = nI X) (hX2 : X ≤ 105) : ∀ (d i n : Nat), i + d = X → d < n → (∀ j, i ≤ j → j < X → ¬ (u 7 j = a ∧ u 8 j = o)) → k_Xt_rowOf_2 N κ n a o (nI i) u = κ u := by
  intro d
  induction d with
  | zero =>
    intro i n hi hn h
    obtain ⟨n, rfl, hn⟩ := succ_of hn
    rw [k_Xt_rowOf_2, hX, if_pos (nI_le (by omega) (by omega))]
  | succ d ih =>
    intro i n hi hn h
    obtain ⟨n, rfl, hn⟩ := succ_of hn
    rw [k_Xt_rowOf_2, hX, if_neg (nI_ge (by omega) (by omega)), gdN (by omega) (by omega)]
    simp (disch := omega) only [nI_clamp, nI_1]
    have ih2 := ih (i + 1) n (by omega) (by omega) (fun j h1 h2 => h j (by omega) h2)
    have hi2 := h i (by omega) (by omega)
    by_cases h7 : u 7 i = a
    · rw [if_pos h7, gdN (by omega) (by omega), if_neg (fun z => hi2 ⟨h7, z⟩)]
      exact ih2
    · rw [if_neg h7]
      exact ih2
theorem rowOf_find {N X r : Nat} {κ : Mem → Rs} {a o : Int32} {u : Mem} (hX : u 6 3 = nI X) (hX2 : X ≤ 105) (hr : r < X) (h7 : u 7 r = a) (h8 : u 8 r = o) : ∀ (d i n : Nat), i + d = r → d < n → (∀ j, i ≤ j → j < r → ¬ (u 7 j = a ∧ u 8 j = o)) → k_Xt_rowOf_2 N κ n a o (nI i) u = some (nI r, u) := by
  intro d
  induction d with
  | zero =>
    intro i n hi hn h
    obtain ⟨n, rfl, hn⟩ := succ_of hn
    have e : i = r := by omega
    subst e
    rw [k_Xt_rowOf_2, hX, if_neg (nI_ge (by omega) (by omega)), gdN (by omega) (by omega)]
    simp (disch := omega) only [nI_clamp]
    rw [if_pos h7, gdN (by omega) (by omega), if_pos h8]
  | succ d ih =>
    intro i n hi hn h
    obtain ⟨n, rfl, hn⟩ := succ_of hn
    rw [k_Xt_rowOf_2, hX, if_neg (nI_ge (by omega) (by omega)), gdN (by omega) (by omega)]
    simp (disch := omega) only [nI_clamp, nI_1]
    have ih2 := ih (i + 1) n (by omega) (by omega) (fun j h1 h2 => h j (by omega) h2)
    have hi2 := h i (by omega) (by omega)
    by_cases g7 : u 7 i = a
    · rw [if_pos g7, gdN (by omega) (by omega), if_neg (fun z => hi2 ⟨g7, z⟩)]
      exact ih2
    · rw [if_neg g7]
      exact ih2
theorem rowOf_none {N X : Nat} {a o : Int32} {u : Mem} (hN : 600 ≤ N) (hX : u 6 3 = nI X) (hX2 : X ≤ 105) (h : ∀ j, j < X → ¬ (u 7 j = a ∧ u 8 j = o)) : f_Xt_rowOf N a o u = some (-1, u) := by
  unfold f_Xt_rowOf
  exact rowOf_loop hX hX2 X 0 N (by omega) (by omega) (fun j _ h2 => h j h2)
/-- a node and an object have one row at most -/
def uniq78 (X : Nat) (u : Mem) : Prop := ∀ i j, i < X → j < X → u 7 i = u 7 j → u 8 i = u 8 j → i = j
theorem rowOf_some {N X r : Nat} {a o : Int32} {u : Mem} (hN : 600 ≤ N) (hX : u 6 3 = nI X) (hX2 : X ≤ 105) (hu : uniq78 X u) (hr : r < X) (h7 : u 7 r = a) (h8 : u 8 r = o) : f_Xt_rowOf N a o u = some (nI r, u) := by
  unfold f_Xt_rowOf
  refine rowOf_find hX hX2 hr h7 h8 r 0 N (by omega) (by omega) (fun j _ h2 z => ?_)
  have := hu j r (by omega) hr (z.1.trans h7.symm) (z.2.trans h8.symm)
  omega
def cpR (u : Mem) (a b : Nat) : Mem := stM (stM (stM u 7 b (u 7 a)) 8 b (u 8 a)) 9 b (u 9 a)
theorem copyRow_eq {N a b : Nat} {u : Mem} (ha : a < 105) (hb : b < 105) : f_Xt_copyRow N (nI a) (nI b) u = some (0, cpR u a b) := by
  unfold f_Xt_copyRow
  dsimp only [jn]
  simp only [gdN ha (show 105 < 2 ^ 31 by omega), gdN hb (show 105 < 2 ^ 31 by omega), nI_clamp (show a < 2 ^ 31 by omega), nI_clamp (show b < 2 ^ 31 by omega)]
  rfl
theorem cpR_rd (u : Mem) (a b c j : Nat) : cpR u a b c j = if (c = 7 ∨ c = 8 ∨ c = 9) ∧ j = b then u c a else u c j := by
  unfold cpR
  simp only [stM_rd]
  by_cases h9 : c = 9
  · subst h9; by_cases hj : j = b <;> simp [hj]
  · by_cases h8 : c = 8
    · subst h8; by_cases hj : j = b <;> simp [hj]
    · by_cases h7 : c = 7
      · subst h7; by_cases hj : j = b <;> simp [hj]
      · simp [h9, h8, h7]
theorem cpR_oth {u : Mem} {a b q : Nat} (h7 : ¬ q = 7) (h8 : ¬ q = 8) (h9 : ¬ q = 9) : cpR u a b q = u q := by
  unfold cpR
  rw [stM_ne h9, stM_ne h8, stM_ne h7]
/-- the rows from p on, one place up, up to X -/
def upR (u w : Mem) (p X : Nat) : Prop := (∀ q, ¬ q = 7 → ¬ q = 8 → ¬ q = 9 → w q = u q) ∧ ∀ c, (c = 7 ∨ c = 8 ∨ c = 9) → (∀ i, i ≤ p → w c i = u c i) ∧ ∀ i, p < i → i ≤ X → w c i = u c (i - 1)
theorem insert_loop {N X : Nat} {κ : Int32 → Int32 → Int32 → Int32 → Mem → Rs} {a o v : Int32} {u : Mem} (hX : X < 105) : ∀ (r n : Nat) (w : Mem), r ≤ X → r < n → upR u w r X → (∀ i, r ≤ i → i < X → o.toInt < (u 8 i).toInt) →
    ∃ (p : Nat) (w2 : Mem), k_Xt_insert_6 N κ n a o v (nI r) w = κ a o v (nI p) w2 ∧ p ≤ r ∧ upR u w2 p X ∧ (∀ i, p ≤ i → i < X → o.toInt < (u 8 i).toInt) ∧ (0 < p → (u 8 (p - 1)).toInt ≤ o.toInt) := by
  intro r
  induction r with
  | zero =>
    intro n w h1 h2 h3 h4
    obtain ⟨n, rfl, hn⟩ := succ_of h2
    refine ⟨0, w, ?_, Nat.le_refl _, h3, h4, fun z => absurd z (Nat.lt_irrefl 0)⟩
    rw [k_Xt_insert_6, if_pos (show nI 0 ≤ 0 by decide)]
  | succ r ih =>
    intro n w h1 h2 h3 h4
    obtain ⟨n, rfl, hn⟩ := succ_of h2
    have e1 : nI (r + 1) - 1 = nI r := nI_pred r
    have w8 : w 8 r = u 8 r := (h3.2 8 (Or.inr (Or.inl rfl))).1 r (by omega)
    by_cases hc : u 8 r ≤ o
    · refine ⟨r + 1, w, ?_, Nat.le_refl _, h3, h4, fun _ => ?_⟩
      · rw [k_Xt_insert_6, if_neg (nI_nle (by omega) (by omega)), e1, gdN (by omega) (by omega), nI_clamp (by omega), w8, if_pos hc]
      · rw [ti_le] at hc
        exact hc
    · obtain ⟨p, w2, g1, g2, g3, g4, g5⟩ := ih n (cpR w r (r + 1)) (by omega) (by omega) (by
        refine ⟨fun q a b c => by rw [cpR_oth a b c]; exact h3.1 q a b c, fun c hc => ⟨fun i hi => ?_, fun i h5 h6 => ?_⟩⟩
        · rw [cpR_rd, if_neg (fun z => by have := z.2; omega)]
          exact (h3.2 c hc).1 i (by omega)
        · rw [cpR_rd]
          by_cases e : i = r + 1
          · rw [if_pos ⟨hc, e⟩, e]
            exact (h3.2 c hc).1 r (by omega)
          · rw [if_neg (fun z => e z.2)]
            exact (h3.2 c hc).2 i (by omega) h6) (fun i h5 h6 => by
        by_cases e : i = r
        · subst e
          rw [ti_le] at hc
          omega
        · exact h4 i (by omega) h6)
      refine ⟨p, w2, ?_, by omega, g3, g4, g5⟩
      rw [k_Xt_insert_6, if_neg (nI_nle (by omega) (by omega)), e1, gdN (by omega) (by omega), nI_clamp (by omega), w8, if_neg hc, copyRow_eq (by omega) (by omega), bd_some, pk_m1]
      exact g1
/-- a new row at p -/
def insR (u w : Mem) (p X : Nat) (a o v : Int32) : Prop := (∀ q, ¬ q = 6 → ¬ q = 7 → ¬ q = 8 → ¬ q = 9 → w q = u q) ∧ w 6 3 = nI (X + 1) ∧ (∀ c, (c = 7 ∨ c = 8 ∨ c = 9) → (∀ i, i < p → w c i = u c i) ∧ ∀ i, p < i → i ≤ X → w c i = u c (i - 1)) ∧ w 7 p = a ∧ w 8 p = o ∧ w 9 p = v
theorem insert_eq {N X : Nat} {a o v : Int32} {u : Mem} (hN : 600 ≤ N) (hX : u 6 3 = nI X) (hX2 : X < 105) : ∃ (p : Nat) (w : Mem), f_Xt_insert N a o v u = some (0, w) ∧ p ≤ X ∧ insR u w p X a o v ∧ (∀ i, p ≤ i → i < X → o.toInt < (u 8 i).toInt) ∧ (0 < p → (u 8 (p - 1)).toInt ≤ o.toInt) := by
  unfold f_Xt_insert
  rw [hX]
  obtain ⟨p, w2, g1, g2, g3, g4, g5⟩ := insert_loop (N := N) (κ := fun x12 x13 x14 x15 u16 => gd (inB x15 105) (jn (stM u16 7 x15.toNatClampNeg x12) (fun u18 => gd (inB x15 105) (jn (stM u18 8 x15.toNatClampNeg x13) (fun u20 => gd (inB x15 105) (jn (stM u20 9 x15.toNatClampNeg x14) (fun u22 => jn (stM u22 6 3 ((u22 6 3) + 1)) (fun u23 => some (0, u23))))))))) (a := a) (o := o) (v := v) (u := u) hX2 X N u (Nat.le_refl _) (by omega) ⟨fun _ _ _ _ => rfl, fun c hc => ⟨fun _ _ => rfl, fun i h1 h2 => by omega⟩⟩ (fun i h1 h2 => by omega)
  refine ⟨p, stM (stM (stM (stM w2 7 p a) 8 p o) 9 p v) 6 3 (nI (X + 1)), ?_, g2, ⟨fun q h6 h7 h8 h9 => ?_, ?_, fun c hc => ⟨fun i hi => ?_, fun i h1 h2 => ?_⟩, ?_, ?_, ?_⟩, g4, g5⟩
  · refine g1.trans ?_
    dsimp only [jn]
    simp only [gdN (show p < 105 by omega) (show 105 < 2 ^ 31 by omega), nI_clamp (show p < 2 ^ 31 by omega)]
    have e6 : (stM (stM (stM w2 7 p a) 8 p o) 9 p v) 6 3 = nI X := by
      rw [stM_ne (by decide), stM_ne (by decide), stM_ne (by decide), g3.1 6 (by decide) (by decide) (by decide), hX]
    rw [e6, nI_1]
  · rw [stM_ne h6, stM_ne h9, stM_ne h8, stM_ne h7]
    exact g3.1 q h7 h8 h9
  · rw [stM_eq]; exact pk_us
  · have h := (g3.2 c hc).1 i (by omega)
    have e : ¬ i = p := by omega
    rcases hc with rfl | rfl | rfl <;> simp only [stM_rd] <;> simp [e, h]
  · have h := (g3.2 c hc).2 i h1 h2
    have e : ¬ i = p := by omega
    rcases hc with rfl | rfl | rfl <;> simp only [stM_rd] <;> simp [e, h]
  · simp only [stM_rd]; simp
  · simp only [stM_rd]; simp
  · simp only [stM_rd]; simp
/-- the row r taken away -/
def rmR (u w : Mem) (r X : Nat) : Prop := (∀ q, ¬ q = 6 → ¬ q = 7 → ¬ q = 8 → ¬ q = 9 → w q = u q) ∧ w 6 3 = nI (X - 1) ∧ ∀ c, (c = 7 ∨ c = 8 ∨ c = 9) → (∀ i, i < r → w c i = u c i) ∧ ∀ i, r ≤ i → i + 1 < X → w c i = u c (i + 1)
theorem removeAt_loop {N X r : Nat} {κ : Mem → Rs} {u : Mem} (hX2 : X ≤ 105) (hX : u 6 3 = nI X) : ∀ (d i n : Nat) (w : Mem), i + d = X → r < i → d < n → (∀ q, ¬ q = 7 → ¬ q = 8 → ¬ q = 9 → w q = u q) → (∀ c, (c = 7 ∨ c = 8 ∨ c = 9) → (∀ j, j < r → w c j = u c j) ∧ (∀ j, r ≤ j → j + 1 < i → w c j = u c (j + 1)) ∧ ∀ j, i ≤ j + 1 → ¬ j < r → j < X → (j + 1 = i ∨ i ≤ j) → (i ≤ j → w c j = u c j)) →
    ∃ w2, k_Xt_removeAt_4 N κ n (nI i) w = κ w2 ∧ (∀ q, ¬ q = 7 → ¬ q = 8 → ¬ q = 9 → w2 q = u q) ∧ ∀ c, (c = 7 ∨ c = 8 ∨ c = 9) → (∀ j, j < r → w2 c j = u c j) ∧ ∀ j, r ≤ j → j + 1 < X → w2 c j = u c (j + 1) := by
  intro d
  induction d with
  | zero =>
    intro i n w hi hr hn h1 h2
    obtain ⟨n, rfl, hn⟩ := succ_of hn
    refine ⟨w, ?_, h1, fun c hc => ⟨(h2 c hc).1, fun j a b => (h2 c hc).2.1 j a (by omega)⟩⟩
    rw [k_Xt_removeAt_4, h1 6 (by decide) (by decide) (by decide), hX, if_pos (nI_le (by omega) (by omega))]
  | succ d ih =>
    intro i n w hi hr hn h1 h2
    obtain ⟨n, rfl, hn⟩ := succ_of hn
    obtain ⟨j0, rfl⟩ : ∃ j, i = j + 1 := ⟨i - 1, by omega⟩
    obtain ⟨w2, g1, g2, g3⟩ := ih (j0 + 1 + 1) n (cpR w (j0 + 1) j0) (by omega) (by omega) (by omega) (fun q a b c => by rw [cpR_oth a b c]; exact h1 q a b c) (fun c hc => ⟨fun j hj => by
        rw [cpR_rd, if_neg (fun z => by have := z.2; omega)]
        exact (h2 c hc).1 j hj, fun j a b => by
        rw [cpR_rd]
        by_cases e : j = j0
        · rw [if_pos ⟨hc, e⟩, e]
          exact (h2 c hc).2.2 (j0 + 1) (by omega) (by omega) (by omega) (Or.inr (Nat.le_refl _)) (Nat.le_refl _)
        · rw [if_neg (fun z => e z.2)]
          exact (h2 c hc).2.1 j a (by omega), fun j a b c1 _ e1 => by
        rw [cpR_rd, if_neg (fun z => by have := z.2; omega)]
        exact (h2 c hc).2.2 j (by omega) b c1 (Or.inr (by omega)) (by omega)⟩)
    refine ⟨w2, ?_, g2, g3⟩
    rw [k_Xt_removeAt_4, h1 6 (by decide) (by decide) (by decide), hX, if_neg (nI_ge (by omega) (by omega)), show nI (j0 + 1) - 1 = nI j0 from nI_pred j0, copyRow_eq (by omega) (by omega), bd_some, nI_1]
    exact g1
theorem removeAt_eq {N X r : Nat} {u : Mem} (hN : 600 ≤ N) (hX : u 6 3 = nI X) (hX2 : X ≤ 105) (hr : r < X) : ∃ w, f_Xt_removeAt N (nI r) u = some (0, w) ∧ rmR u w r X := by
  unfold f_Xt_removeAt
  rw [nI_1]
  obtain ⟨w2, g1, g2, g3⟩ := removeAt_loop (N := N) (r := r) (κ := fun u7 => jn (stM u7 6 3 ((u7 6 3) - 1)) (fun u8 => some (0, u8))) hX2 hX (X - (r + 1)) (r + 1) N u (by omega) (by omega) (by omega) (fun _ _ _ _ => rfl) (fun c hc => ⟨fun _ _ => rfl, fun j a b => by omega, fun _ _ _ _ _ _ => rfl⟩)
  have e : w2 6 3 - 1 = nI (X - 1) := by
    rw [g2 6 (by decide) (by decide) (by decide), hX]
    exact pk_sub (b := 1) (by omega)
  refine ⟨stM w2 6 3 (nI (X - 1)), ?_, fun q h6 h7 h8 h9 => ?_, ?_, fun c hc => ?_⟩
  · refine g1.trans ?_
    dsimp only [jn]
    rw [e]
  · rw [stM_ne h6]
    exact g2 q h7 h8 h9
  · rw [stM_eq]; exact pk_us
  · have hn : ¬ c = 6 := by omega
    rw [stM_ne hn]
    exact g3 c hc
