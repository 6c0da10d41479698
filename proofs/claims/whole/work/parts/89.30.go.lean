/-! Pure: carry in the class and arrive in the reference, from memories that hold the relation together. -/
theorem carR_hi {v w : Mem} {X s b X' : Nat} {y : Int32} (h : carR v w X s b y X') {q : Nat} (hq : 15 ≤ q) : w q = v q := by
  obtain ⟨v1, hv1, rfl⟩ := h
  have f1 : v1 q = v q := by
    rcases hv1 with ⟨-, e, -⟩ | ⟨-, e⟩
    · rw [e]
    · exact e.oth (by omega) (by omega) (by omega) (by omega)
  rw [← f1]
  funext j
  rw [tailC_rd, if_neg (by omega), if_neg (by omega)]
theorem raiseM_oth {m : Mem} {k o : Nat} {x : Int32} {q : Nat} (h17 : ¬ q = 17) (h22 : ¬ q = 22) : raiseM m k o x q = m q := by
  unfold raiseM
  split
  · rfl
  · rw [stM_ne h17, stM_ne h22]
theorem tailM_oth {m : Mem} {k o q : Nat} (h17 : ¬ q = 17) (h22 : ¬ q = 22) : tailM m k o q = m q := by
  unfold tailM
  split
  · rw [stM_ne h22, stM_ne h17]
  · exact raiseM_oth h17 h22
theorem arrM_oth {m : Mem} {k o b q : Nat} (h17 : ¬ q = 17) (h20 : ¬ q = 20) (h22 : ¬ q = 22) : arrM m k o b q = m q := by
  unfold arrM
  rw [tailM_oth h17 h22]
  split
  · rfl
  · exact stM_ne h20
/-- a number: of no object that is there, or of the object in a slot (facts alone) -/
theorem slot_num {c t M S X : Nat} {u : Mem} (h : SA c t M S X u) (k : Int32) :
    ((∀ s, s < 24 → u 3 s = k → k = 0) ∧ ((k < 1 ∨ nI M < k) ∨ ∃ j, 1 ≤ j ∧ j ≤ M ∧ k = nI j ∧ u 16 j = -1)) ∨ ∃ s j, s < 24 ∧ 1 ≤ j ∧ j ≤ M ∧ k = nI j ∧ u 3 s = nI j := by
  obtain ⟨⟨⟨c1, c2, c3, c4, c5⟩, e1, e2, e3, e4, e5, e6, e7, e8⟩, -, -, -, ⟨d3, h1, h2, h3, h4, h5, h6⟩, -⟩ := h
  rcases num_or k (M := M) (by omega) with hk | ⟨j, j1, j2, rfl⟩
  · left
    refine ⟨fun s hs e => ?_, Or.inl hk⟩
    obtain ⟨j, j1, j2⟩ := h1 s hs
    rw [j2] at e
    rw [← e] at hk ⊢
    rcases hk with hk | hk
    · have : j < 1 := (nI_ltI (b := 1) (by omega) (by omega)).mp hk
      rw [show j = 0 by omega]; rfl
    · have := (nI_ltI (by omega) (by omega)).mp hk
      omega
  · rcases h3 j j1 j2 with hd | ⟨s, s1, s2⟩
    · left
      refine ⟨fun s hs e => ?_, Or.inr ⟨j, j1, j2, rfl, hd⟩⟩
      have := (h2 s j hs j1 j2 e).1
      rw [hd] at this
      exact absurd this.symm (m1_ne (by omega))
    · exact Or.inr ⟨s, j, s1, j1, j2, rfl, s2⟩
theorem slotOf_no {N : Nat} {k : Int32} {v : Mem} (hN : 600 ≤ N) (h : ∀ s, s < 24 → v 3 s = k → k = 0) : f_Hp_slotOf N k v = some (-1, v) := by
  by_cases h0 : 0 < k
  · refine slotOf_none hN (fun s hs e => ?_)
    rw [h s hs e] at h0
    exact absurd h0 (by decide)
  · exact slotOf_neg h0
theorem there_no {N M : Nat} {k : Int32} {m : Mem} (hM : m 15 1 = nI M) (hM2 : M ≤ 512) (h : (k < 1 ∨ nI M < k) ∨ ∃ j, 1 ≤ j ∧ j ≤ M ∧ k = nI j ∧ m 16 j = -1) : f_Md_there N k m = some (0, m) := by
  rcases h with h | ⟨j, j1, j2, rfl, j3⟩
  · exact there_o hM h
  · exact there_d hM hM2 j1 j2 (by rw [j3]; exact m1_lt)
theorem carry_go {c t M S X N b : Nat} {u v : Mem} (hN : 600 ≤ N) (h : SA c t M S X u) (hlt : ∀ n, n < 3 → (u 12 n).toInt < t) (hv : ∀ q, q < 15 → v q = u q) (y a : Int32) (hb : b < 3) :
    ∃ w, f_Sh_carry N y a (nI b) v = some (0, w) ∧ (∀ q, 15 ≤ q → w q = v q) ∧ (a = nI b → w = v) ∧ (¬ a = nI b → ∀ m : Mem, (∀ q, q < 15 → m q = w q) → (∀ q, 15 ≤ q → m q = u q) → ∃ z X', f_Md_arrive N y (nI b) m = some (0, z) ∧ SA c t M S X' z ∧ ∀ q, ¬ q = 17 → ¬ q = 20 → ¬ q = 22 → z q = m q) := by
  have v3 := hv 3 (by decide)
  have hM := h.1.1
  have e4 := h.1.2.2.2.2.1
  have e7 := h.1.2.2.2.2.2.2.2.1
  rcases slot_num h y with ⟨g1, g2⟩ | ⟨s, j, s1, j1, j2, rfl, s2⟩
  · refine ⟨v, carry_stay (slotOf_no hN (by rw [v3]; exact g1)) (Or.inr rfl), fun _ _ => rfl, fun _ => rfl, fun _ m hm1 hm2 => ?_⟩
    have em : m = u := by
      funext q
      by_cases hq : q < 15
      · rw [hm1 q hq, hv q hq]
      · exact hm2 q (by omega)
    refine ⟨m, X, arrive_no (there_no (M := M) (by rw [em]; exact e4) (by omega) (by rw [em]; exact g2)), by rw [em]; exact h, fun _ _ _ _ => rfl⟩
  · have hsl : f_Hp_slotOf N (nI j) v = some (nI s, v) := slotOf_some hN (by unfold dist3; rw [v3]; exact h.2.2.2.2.1.1) s1 (by rw [v3]; exact s2) (by omega) (by omega)
    by_cases hab : a = nI b
    · exact ⟨v, carry_stay hsl (Or.inl hab), fun _ _ => rfl, fun _ => rfl, fun z => absurd hab z⟩
    · have v7 := hv 7 (by decide)
      have v8 := hv 8 (by decide)
      obtain ⟨w, X', w1, w2⟩ := carry_eq (N := N) (X := X) (a := a) hN s1 hb hsl hab (by rw [hv 6 (by decide)]; exact e7) (by omega) (by unfold uniq78; rw [v7, v8]; exact h.2.2.2.2.2.2.2.1) (fun hne hno => room h s1 j1 j2 s2 hb hne (by rw [← v7, ← v8]; exact hno))
      refine ⟨w, w1, fun q hq => carR_hi w2 hq, fun z => absurd z hab, fun _ m hm1 hm2 => ?_⟩
      have m16 : m 16 j = nI (s / 8) := by rw [hm2 16 (by decide)]; exact (h.2.2.2.2.1.2.2.1 s j s1 j1 j2 s2).1
      refine ⟨arrM m j (s / 8) b, X', arrive_eq (there_t (M := M) (by rw [hm2 15 (by decide)]; exact e4) (by omega) j1 j2 (by rw [m16]; exact nI_pos (by omega))) (by omega) (by omega) hb m16, ?_, fun q a1 a2 a3 => arrM_oth a1 a2 a3⟩
      exact carry_sa h hlt s1 j1 j2 s2 hb hv hm2 w2 (fun q hq => by rw [arrM_oth (by omega) (by omega) (by omega)]; exact hm1 q hq) (fun q _ => rfl)
/-- the clock goes on; the roots change alike -/
theorem sa_tick {c t M S X : Nat} {u z : Mem} (h : SA c t M S X u) (hc : c + 1 ≤ 512) (h0 : z 0 7 = nI (t + 1)) (h08 : z 0 8 = u 0 8) (h15 : ∀ j, z 15 j = if j = 0 then nI (t + 1) else u 15 j) (hR : SR z) (ho : ∀ q, ¬ q = 0 → ¬ q = 1 → ¬ q = 15 → ¬ q = 19 → z q = u q) : SA (c + 1) (t + 1) M S X z ∧ ∀ n, n < 3 → (z 12 n).toInt < ((t + 1 : Nat) : Int) := by
  obtain ⟨⟨⟨c1, c2, c3, c4, c5⟩, e1, e2, e3, e4, e5, e6, e7, e8⟩, -, hL, hQ, hH, hX⟩ := h
  have o : ∀ q, ¬ q = 0 → ¬ q = 1 → ¬ q = 15 → ¬ q = 19 → z q = u q := ho
  have z2 := o 2 (by decide) (by decide) (by decide) (by decide)
  have z3 := o 3 (by decide) (by decide) (by decide) (by decide)
  have z4 := o 4 (by decide) (by decide) (by decide) (by decide)
  have z5 := o 5 (by decide) (by decide) (by decide) (by decide)
  have z6 := o 6 (by decide) (by decide) (by decide) (by decide)
  have z7 := o 7 (by decide) (by decide) (by decide) (by decide)
  have z8 := o 8 (by decide) (by decide) (by decide) (by decide)
  have z9 := o 9 (by decide) (by decide) (by decide) (by decide)
  have z10 := o 10 (by decide) (by decide) (by decide) (by decide)
  have z11 := o 11 (by decide) (by decide) (by decide) (by decide)
  have z12 := o 12 (by decide) (by decide) (by decide) (by decide)
  have z13 := o 13 (by decide) (by decide) (by decide) (by decide)
  have z16 := o 16 (by decide) (by decide) (by decide) (by decide)
  have z17 := o 17 (by decide) (by decide) (by decide) (by decide)
  have z18 := o 18 (by decide) (by decide) (by decide) (by decide)
  have z20 := o 20 (by decide) (by decide) (by decide) (by decide)
  have z21 := o 21 (by decide) (by decide) (by decide) (by decide)
  have z22 := o 22 (by decide) (by decide) (by decide) (by decide)
  have z23 := o 23 (by decide) (by decide) (by decide) (by decide)
  refine ⟨⟨⟨⟨hc, by omega, by omega, c4, c5⟩, h0, by rw [h15, if_pos rfl], by rw [z2]; exact e3, by rw [h15, if_neg (by decide)]; exact e4, by rw [z10]; exact e5, by rw [h15, if_neg (by decide)]; exact e6, by rw [z6]; exact e7, by rw [h15, if_neg (by decide), h08]; exact e8⟩, hR, fun n hn => ?_, ⟨by rw [z11, z23]; exact hQ.1, fun i hi => ?_⟩, ?_, ?_⟩, fun n hn => ?_⟩
  · obtain ⟨q1, q2, q3, q4, q5⟩ := hL n hn
    rw [z12, z13, z21, z22, h08]
    exact ⟨q1, q2, q3, by omega, q5⟩
  · have := hQ.2 i hi
    rw [z11]
    omega
  · obtain ⟨d3, h1, h2, h3, h4, h5, h6⟩ := hH
    refine ⟨by unfold dist3; rw [z3]; exact d3, by rw [z3]; exact h1, by rw [z3, z4, z5, z16, z17, z18]; exact h2, by rw [z3, z16]; exact h3, by rw [z3, z4, z5]; exact h4, fun s hs => ?_, by rw [z18]; exact h6⟩
    rw [z5]
    rcases h5 s hs with q | q
    · exact Or.inl q
    · exact Or.inr ⟨q.1, by omega⟩
  · obtain ⟨x1, x2, x3, x4, x5⟩ := hX
    refine ⟨fun i hi => ?_, by rw [z8]; exact x2, by unfold uniq78; rw [z7, z8]; exact x3, by rw [z7, z8, z20]; exact x4, by rw [z7, z9, z12]; exact x5⟩
    obtain ⟨b, k, q1, q2, q3, q4, q5, q6, q7, q8, q9⟩ := x1 i hi
    rw [z7, z8, z9, z20, z12, z3, z5]
    exact ⟨b, k, q1, q2, q3, q4, q5, q6, q7, by omega, q9⟩
  · have := (hL n hn).2.2.2.1
    rw [z12]
    omega
