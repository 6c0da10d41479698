/-! Pure: round. -/
/-- those of cell q from a on, before e, that have P become -1 -/
def rmE (u w : Mem) (q : Nat) (P : Nat → Prop) [DecidablePred P] (a e : Nat) : Prop := (∀ p, ¬ p = q → w p = u p) ∧ ∀ j, w q j = if a ≤ j ∧ j < e ∧ P j then -1 else u q j
theorem rmE_step {u w : Mem} {q a i : Nat} {P : Nat → Prop} [DecidablePred P] (h : rmE u w q P a i) (hi : a ≤ i) (hp : P i) : rmE u (stM w q i (-1)) q P a (i + 1) := by
  refine ⟨fun p hpq => by rw [stM_ne hpq]; exact h.1 p hpq, fun j => ?_⟩
  rw [stM_rs]
  by_cases e : j = i
  · rw [if_pos e, if_pos ⟨by omega, by omega, by rw [e]; exact hp⟩]
  · rw [if_neg e, h.2]
    by_cases g : a ≤ j ∧ j < i ∧ P j
    · rw [if_pos g, if_pos ⟨g.1, by omega, g.2.2⟩]
    · rw [if_neg g, if_neg (fun z => g ⟨z.1, by omega, z.2.2⟩)]
theorem rmE_skip {u w : Mem} {q a i : Nat} {P : Nat → Prop} [DecidablePred P] (h : rmE u w q P a i) (hp : ¬ P i) : rmE u w q P a (i + 1) := by
  refine ⟨h.1, fun j => ?_⟩
  rw [h.2]
  by_cases g : a ≤ j ∧ j < i ∧ P j
  · rw [if_pos g, if_pos ⟨g.1, by omega, g.2.2⟩]
  · rw [if_neg g, if_neg (fun z => ?_)]
    by_cases e : j = i
    · exact hp (by rw [← e]; exact z.2.2)
    · exact g ⟨z.1, by omega, z.2.2⟩
theorem remC_loop {N : Nat} {κ : Int32 → Mem → Rs} {T : Int32} {u : Mem} : ∀ (d i n c : Nat) (w : Mem), i + d = 24 → d < n → rmE u w 5 (fun s => ¬ u 5 s = -1 ∧ ¬ T ≤ u 5 s) 0 i → ∃ w2, k_Hp_removeEntriesBelow_4 N κ n T (nI c) (nI i) w = κ (nI (c + cnF (fun s => ¬ u 5 s = -1 ∧ ¬ T ≤ u 5 s) i d)) w2 ∧ rmE u w2 5 (fun s => ¬ u 5 s = -1 ∧ ¬ T ≤ u 5 s) 0 24 := by
  intro d
  induction d with
  | zero =>
    intro i n c w hi hn h
    obtain ⟨n, rfl, hn⟩ := succ_of hn
    refine ⟨w, ?_, by rw [show 24 = i by omega]; exact h⟩
    rw [k_Hp_removeEntriesBelow_4, if_pos (show (24 : Int32) ≤ nI i from nI_le (a := 24) (by omega) (by omega))]
    rfl
  | succ d ih =>
    intro i n c w hi hn h
    obtain ⟨n, rfl, hn⟩ := succ_of hn
    have wi : w 5 i = u 5 i := by rw [h.2, if_neg (by omega)]
    by_cases h1 : u 5 i = -1
    · obtain ⟨w2, g1, g2⟩ := ih (i + 1) n c w (by omega) (by omega) (rmE_skip h (fun z => z.1 h1))
      refine ⟨w2, ?_, g2⟩
      rw [k_Hp_removeEntriesBelow_4, if_neg (show ¬ (24 : Int32) ≤ nI i from nI_ge (b := 24) (by omega) (by omega)), gdN (by omega) (by omega)]
      simp (disch := omega) only [nI_clamp]
      rw [wi, if_pos h1, nI_1, g1, cnF, if_neg (fun z => z.1 h1), Nat.zero_add]
    · by_cases h2 : T ≤ u 5 i
      · obtain ⟨w2, g1, g2⟩ := ih (i + 1) n c w (by omega) (by omega) (rmE_skip h (fun z => z.2 h2))
        refine ⟨w2, ?_, g2⟩
        rw [k_Hp_removeEntriesBelow_4, if_neg (show ¬ (24 : Int32) ≤ nI i from nI_ge (b := 24) (by omega) (by omega)), gdN (by omega) (by omega)]
        simp (disch := omega) only [nI_clamp]
        rw [wi, if_neg h1, gdN (by omega) (by omega), if_pos h2, nI_1, g1, cnF, if_neg (fun z => z.2 h2), Nat.zero_add]
      · obtain ⟨w2, g1, g2⟩ := ih (i + 1) n (c + 1) (stM w 5 i (-1)) (by omega) (by omega) (rmE_step h (Nat.zero_le _) ⟨h1, h2⟩)
        refine ⟨w2, ?_, g2⟩
        unfold k_Hp_removeEntriesBelow_4
        dsimp only [jn]
        rw [if_neg (show ¬ (24 : Int32) ≤ nI i from nI_ge (b := 24) (by omega) (by omega)), gdN (by omega) (by omega)]
        simp (disch := omega) only [nI_clamp]
        rw [wi, if_neg h1, gdN (by omega) (by omega), if_neg h2, gdN (by omega) (by omega), nI_1, nI_1, g1, cnF, if_pos ⟨h1, h2⟩, Nat.add_assoc]
theorem remM_loop {N M : Nat} {κ : Int32 → Mem → Rs} {u : Mem} (hM : u 15 1 = nI M) (hM2 : M ≤ 512) : ∀ (d i n c : Nat) (w : Mem), i + d = M + 1 → d < n → 1 ≤ i → rmE u w 17 (fun k => ¬ u 16 k < 0 ∧ ¬ u 17 k < 0 ∧ ¬ u 15 9 ≤ u 17 k) 1 i → ∃ w2, k_Md_round_68 N κ n (nI c) (nI i) w = κ (nI (c + cnF (fun k => ¬ u 16 k < 0 ∧ ¬ u 17 k < 0 ∧ ¬ u 15 9 ≤ u 17 k) i d)) w2 ∧ rmE u w2 17 (fun k => ¬ u 16 k < 0 ∧ ¬ u 17 k < 0 ∧ ¬ u 15 9 ≤ u 17 k) 1 (M + 1) := by
  intro d
  induction d with
  | zero =>
    intro i n c w hi hn h1i h
    obtain ⟨n, rfl, hn⟩ := succ_of hn
    refine ⟨w, ?_, by rw [show M + 1 = i by omega]; exact h⟩
    rw [k_Md_round_68, h.1 15 (by decide), hM, if_pos (nI_lt (by omega) (by omega))]
    rfl
  | succ d ih =>
    intro i n c w hi hn h1i h
    obtain ⟨n, rfl, hn⟩ := succ_of hn
    have wi : w 17 i = u 17 i := by rw [h.2, if_neg (by omega)]
    have w15 := h.1 15 (by decide)
    have w16 := h.1 16 (by decide)
    by_cases h1 : u 16 i < 0
    · obtain ⟨w2, g1, g2⟩ := ih (i + 1) n c w (by omega) (by omega) (by omega) (rmE_skip h (fun z => z.1 h1))
      refine ⟨w2, ?_, g2⟩
      rw [k_Md_round_68, w15, w16, hM, if_neg (nI_nlt (by omega) (by omega)), gdN (by omega) (by omega)]
      simp (disch := omega) only [nI_clamp]
      rw [if_pos h1, nI_1, g1, cnF, if_neg (fun z => z.1 h1), Nat.zero_add]
    · by_cases h2 : u 17 i < 0
      · obtain ⟨w2, g1, g2⟩ := ih (i + 1) n c w (by omega) (by omega) (by omega) (rmE_skip h (fun z => z.2.1 h2))
        refine ⟨w2, ?_, g2⟩
        rw [k_Md_round_68, w15, w16, hM, if_neg (nI_nlt (by omega) (by omega)), gdN (by omega) (by omega)]
        simp (disch := omega) only [nI_clamp]
        rw [if_neg h1, gdN (by omega) (by omega), wi, if_pos h2, nI_1, g1, cnF, if_neg (fun z => z.2.1 h2), Nat.zero_add]
      · by_cases h3 : u 15 9 ≤ u 17 i
        · obtain ⟨w2, g1, g2⟩ := ih (i + 1) n c w (by omega) (by omega) (by omega) (rmE_skip h (fun z => z.2.2 h3))
          refine ⟨w2, ?_, g2⟩
          rw [k_Md_round_68, w15, w16, hM, if_neg (nI_nlt (by omega) (by omega)), gdN (by omega) (by omega)]
          simp (disch := omega) only [nI_clamp]
          rw [if_neg h1, gdN (by omega) (by omega), wi, if_neg h2, gdN (by omega) (by omega), if_pos h3, nI_1, g1, cnF, if_neg (fun z => z.2.2 h3), Nat.zero_add]
        · obtain ⟨w2, g1, g2⟩ := ih (i + 1) n (c + 1) (stM w 17 i (-1)) (by omega) (by omega) (by omega) (rmE_step h h1i ⟨h1, h2, h3⟩)
          refine ⟨w2, ?_, g2⟩
          unfold k_Md_round_68
          dsimp only [jn]
          rw [w15, w16, hM, if_neg (nI_nlt (by omega) (by omega)), gdN (by omega) (by omega)]
          simp (disch := omega) only [nI_clamp]
          rw [if_neg h1, gdN (by omega) (by omega), wi, if_neg h2, gdN (by omega) (by omega), if_neg h3, gdN (by omega) (by omega), nI_1, nI_1, g1, cnF, if_pos ⟨h1, h2, h3⟩, Nat.add_assoc]
theorem cnt_entries {c t M S X : Nat} {T : Int32} {u : Mem} (h : SA c t M S X u) : cnF (fun s => ¬ u 5 s = -1 ∧ ¬ T ≤ u 5 s) 0 24 = cnF (fun k => ¬ u 16 k < 0 ∧ ¬ u 17 k < 0 ∧ ¬ T ≤ u 17 k) 1 M := by
  obtain ⟨⟨⟨c1, c2, c3, c4, c5⟩, e1, e2, e3, e4, e5, e6, e7, e8⟩, -, -, -, ⟨d3, h1, h2, h3, h4, h5, h6⟩, -⟩ := h
  apply Nat.le_antisymm
  · refine cnF_inj (fun s => (u 3 s).toNatClampNeg) 1 M 24 0 _ (fun s a1 a2 a3 => ?_) (fun s s' a1 a2 a3 a4 p1 p2 e => ?_)
    · obtain ⟨k, k1, k2⟩ := h1 s (by omega)
      have k3 : (u 3 s).toNatClampNeg = k := by rw [k2]; exact nI_clamp (by omega)
      rw [k3]
      have k0 : ¬ k = 0 := fun z => a3.1 (h4 s (by omega) (by rw [k2, z]; rfl)).1
      obtain ⟨g1, g2, -, -⟩ := h2 s k (by omega) (by omega) k1 k2
      refine ⟨by omega, by omega, ?_, ?_, ?_⟩
      · rw [g1]; exact nI_pos (by omega)
      · rw [g2]; exact fun z => a3.1 ((m1_iff (h5 s (by omega))).mp z)
      · rw [g2]; exact a3.2
    · obtain ⟨k, k1, k2⟩ := h1 s (by omega)
      obtain ⟨k', k1', k2'⟩ := h1 s' (by omega)
      have e9 : k = k' := by
        have := e
        simp only [k2, k2'] at this
        rw [nI_clamp (by omega), nI_clamp (by omega)] at this
        exact this
      exact d3 s s' (by omega) (by omega) (by rw [k2, k2', e9]) (fun z => p1.1 (h4 s (by omega) z).1)
  · have hex : ∀ k, ∃ s, (1 ≤ k → k ≤ M → ¬ u 16 k < 0 → s < 24 ∧ u 3 s = nI k) := by
      intro k
      by_cases q : 1 ≤ k ∧ k ≤ M ∧ ¬ u 16 k < 0
      · rcases h3 k q.1 q.2.1 with z | ⟨s, s1, s2⟩
        · exact absurd (by rw [z]; exact m1_lt) q.2.2
        · exact ⟨s, fun _ _ _ => ⟨s1, s2⟩⟩
      · exact ⟨0, fun a1 a2 a3 => absurd ⟨a1, a2, a3⟩ q⟩
    obtain ⟨g, hg⟩ := Classical.axiomOfChoice hex
    refine cnF_inj g 0 24 M 1 _ (fun k a1 a2 a3 => ?_) (fun k k' a1 a2 a3 a4 p1 p2 e => ?_)
    · obtain ⟨s1, s2⟩ := hg k a1 (by omega) a3.1
      have h9 := (h2 (g k) k s1 a1 (by omega) s2).2.1
      rw [h9] at a3
      exact ⟨Nat.zero_le _, by omega, fun z => a3.2.1 (by rw [z]; exact m1_lt), a3.2.2⟩
    · obtain ⟨s1, s2⟩ := hg k a1 (by omega) p1.1
      obtain ⟨s1', s2'⟩ := hg k' a3 (by omega) p2.1
      rw [e, s2'] at s2
      exact (nI_inj s2 (by omega) (by omega)).symm
theorem lsQ_le {u : Mem} {q : Nat} {a : Int32} : ∀ (d i : Nat) (x : Int32), (lsQ u q a i d x).toInt ≤ x.toInt := by
  intro d
  induction d with
  | zero => intro i x; exact Int.le_refl _
  | succ d ih =>
    intro i x
    unfold lsQ
    refine Int.le_trans (ih (i + 1) _) ?_
    split
    · rw [imn_ti]; split <;> omega
    · exact Int.le_refl _
theorem imn_le2 (x y : Int32) : (if x ≤ y then x else y) = imn x y := by
  rw [ti_eq, imn_ti]
  by_cases h : x ≤ y
  · rw [if_pos h]; rw [ti_le] at h; split <;> omega
  · rw [if_neg h]; rw [ti_le] at h; split <;> omega
theorem imx_le2 (x y : Int32) : (if y ≤ x then x else y) = imx x y := by
  rw [ti_eq, imx_ti]
  by_cases h : y ≤ x
  · rw [if_pos h]; rw [ti_le] at h; split <;> omega
  · rw [if_neg h]; rw [ti_le] at h; split <;> omega
theorem imn_max2 (m : Int32) : imn 2147483647 m = m := by
  have e : (2147483647 : Int32).toInt = 2147483647 := by decide
  have h := Int32.toInt_lt m
  rw [ti_eq, imn_ti, e]
  split <;> omega
/-- the entries below the threshold gone alike -/
theorem sa_round {c t M S X : Nat} {T : Int32} {u z : Mem} (h : SA c t M S X u) (hT : ∀ n, n < 3 → T.toInt ≤ (u 12 n).toInt) (z0 : ∀ j, z 0 j = if j = 8 then T else u 0 j) (z15 : ∀ j, z 15 j = if j = 9 then T else u 15 j) (z5 : ∀ j, z 5 j = if 0 ≤ j ∧ j < 24 ∧ (¬ u 5 j = -1 ∧ ¬ T ≤ u 5 j) then -1 else u 5 j) (z17 : ∀ j, z 17 j = if 1 ≤ j ∧ j < M + 1 ∧ (¬ u 16 j < 0 ∧ ¬ u 17 j < 0 ∧ ¬ T ≤ u 17 j) then -1 else u 17 j) (ho : ∀ q, ¬ q = 0 → ¬ q = 5 → ¬ q = 15 → ¬ q = 17 → z q = u q) : SA c t M S X z := by
  obtain ⟨⟨⟨c1, c2, c3, c4, c5⟩, e1, e2, e3, e4, e5, e6, e7, e8⟩, hR, hL, hQ, ⟨d3, h1, h2, h3, h4, h5, h6⟩, ⟨x1, x2, x3, x4, x5⟩⟩ := h
  have z1 := ho 1 (by decide) (by decide) (by decide) (by decide)
  have z2 := ho 2 (by decide) (by decide) (by decide) (by decide)
  have z3 := ho 3 (by decide) (by decide) (by decide) (by decide)
  have z4 := ho 4 (by decide) (by decide) (by decide) (by decide)
  have z6 := ho 6 (by decide) (by decide) (by decide) (by decide)
  have z7 := ho 7 (by decide) (by decide) (by decide) (by decide)
  have z8 := ho 8 (by decide) (by decide) (by decide) (by decide)
  have z9 := ho 9 (by decide) (by decide) (by decide) (by decide)
  have z10 := ho 10 (by decide) (by decide) (by decide) (by decide)
  have z11 := ho 11 (by decide) (by decide) (by decide) (by decide)
  have z12 := ho 12 (by decide) (by decide) (by decide) (by decide)
  have z13 := ho 13 (by decide) (by decide) (by decide) (by decide)
  have z16 := ho 16 (by decide) (by decide) (by decide) (by decide)
  have z18 := ho 18 (by decide) (by decide) (by decide) (by decide)
  have z19 := ho 19 (by decide) (by decide) (by decide) (by decide)
  have z20 := ho 20 (by decide) (by decide) (by decide) (by decide)
  have z21 := ho 21 (by decide) (by decide) (by decide) (by decide)
  have z22 := ho 22 (by decide) (by decide) (by decide) (by decide)
  have z23 := ho 23 (by decide) (by decide) (by decide) (by decide)
  refine ⟨⟨⟨c1, c2, c3, c4, c5⟩, by rw [z0, if_neg (by decide)]; exact e1, by rw [z15, if_neg (by decide)]; exact e2, by rw [z2]; exact e3, by rw [z15, if_neg (by decide)]; exact e4, by rw [z10]; exact e5, by rw [z15, if_neg (by decide)]; exact e6, by rw [z6]; exact e7, by rw [z15, if_pos rfl, z0, if_pos rfl]⟩, by unfold SR; rw [z1, z19]; exact hR, fun n hn => ?_, by unfold SQ; rw [z11, z23]; exact hQ, ⟨by unfold dist3; rw [z3]; exact d3, by rw [z3]; exact h1, fun s k q1 q2 q3 q4 => ?_, by rw [z3, z16]; exact h3, fun s q1 q2 => ?_, fun s q1 => ?_, by rw [z18]; exact h6⟩, ⟨fun i hi => ?_, by rw [z8]; exact x2, by unfold uniq78; rw [z7, z8]; exact x3, by rw [z7, z8, z20]; exact x4, by rw [z7, z9, z12]; exact x5⟩⟩
  · obtain ⟨q1, q2, q3, q4, q5⟩ := hL n hn
    rw [z12, z13, z21, z22, z0, if_pos rfl]
    exact ⟨q1, q2, q3, q4, hT n hn⟩
  · rw [z3] at q4
    obtain ⟨g1, g2, g3, g4⟩ := h2 s k q1 q2 q3 q4
    refine ⟨by rw [z16]; exact g1, ?_, by rw [z18, z4]; exact g3, by rw [z18, z4]; exact g4⟩
    rw [z17, z5, g2]
    have hi := m1_iff (h5 s q1)
    by_cases e : ¬ u 5 s = -1 ∧ ¬ T ≤ u 5 s
    · rw [if_pos ⟨q2, by omega, by rw [g1]; exact nI_pos (by omega), fun z => e.1 (hi.mp z), e.2⟩, if_pos ⟨Nat.zero_le _, q1, e⟩]
    · rw [if_neg (fun z => e ⟨fun y => z.2.2.2.1 (hi.mpr y), z.2.2.2.2⟩), if_neg (fun z => e z.2.2)]
  · rw [z3] at q2
    obtain ⟨g1, g2, g3⟩ := h4 s q1 q2
    rw [z5, if_neg (fun z => z.2.2.1 g1), z4]
    exact ⟨g1, g2, g3⟩
  · rw [z5]
    split
    · exact Or.inl rfl
    · exact h5 s q1
  · obtain ⟨b', k', q1, q2, q3, q4, q5, q6, q7, q8, q9⟩ := x1 i hi
    rw [z7, z8, z9, z20, z12, z3]
    refine ⟨b', k', q1, q2, q3, q4, q5, q6, q7, q8, fun q => ?_⟩
    obtain ⟨s', g1, g2, g3, g4⟩ := q9 q
    refine ⟨s', g1, g2, g3, ?_⟩
    have hle : T ≤ u 5 s' := by
      have := hT b' q1
      rw [ti_le]
      omega
    rw [z5, if_neg (fun z => z.2.2.2 hle)]
    exact g4
theorem g_round {c N : Nat} {u : Mem} (h : Sim c u) (hc : c + 1 ≤ 512) (hN : 600 ≤ N) : Good (c + 1) (f_Sh_round N u) (f_Md_round N) := by
  obtain ⟨t, M, S, X, h⟩ := h
  have hM := h.1.1
  have e4 := h.1.2.2.2.2.1
  have e5 := h.1.2.2.2.2.2.1
  have e6 := h.1.2.2.2.2.2.2.1
  have e8 := h.1.2.2.2.2.2.2.2.2
  obtain ⟨R, hR⟩ : ∃ R : Nat → Int32, ∀ b, R b = lsQ u 11 (nI b) 0 S (imn (u 12 b) (u 13 b)) := ⟨_, fun _ => rfl⟩
  have rc : ∀ b, b < 3 → f_Sh_redoOf N (nI b) u = some (R b, u) := fun b hb => by rw [hR]; exact redoOf_eq hN e5 (by omega) hb
  obtain ⟨T, hTe⟩ : ∃ T, T = imx (u 0 8) (imn (imn (R 0) (R 1)) (R 2)) := ⟨_, rfl⟩
  have hT : ∀ n, n < 3 → T.toInt ≤ (u 12 n).toInt := by
    intro n hn
    have a1 := (h.2.2.1 n hn).2.2.2.2
    have a2 : (R n).toInt ≤ (u 12 n).toInt := by
      rw [hR]
      refine Int.le_trans (lsQ_le _ _ _) ?_
      rw [imn_ti]; split <;> omega
    have a3 : (imn (imn (R 0) (R 1)) (R 2)).toInt ≤ (R n).toInt := by
      rw [imn_ti, imn_ti]
      rcases (show n = 0 ∨ n = 1 ∨ n = 2 by omega) with rfl | rfl | rfl <;> split <;> split <;> omega
    rw [hTe, imx_ti]
    split <;> omega
  obtain ⟨N1, f1, -⟩ := succ_of (show 3 < N by omega)
  obtain ⟨N2, f2, -⟩ := succ_of (show 2 < N1 by omega)
  obtain ⟨N3, f3, -⟩ := succ_of (show 1 < N2 by omega)
  obtain ⟨N4, f4, -⟩ := succ_of (show 0 < N3 by omega)
  have eN : N = N4 + 1 + 1 + 1 + 1 := by omega
  have unr : ∀ κ : Int32 → Mem → Rs, k_Sh_round_5 N κ (N4 + 1 + 1 + 1 + 1) 2147483647 0 u = κ (imn (imn (R 0) (R 1)) (R 2)) u := by
    intro κ
    rw [k_Sh_round_5, if_neg (by decide), show f_Sh_redoOf N 0 u = _ from rc 0 (by omega), bd_some, imn_max2, k_Sh_round_5, if_neg (by decide), show f_Sh_redoOf N (0 + 1) u = _ from rc 1 (by omega), bd_some, k_Sh_round_5, if_neg (by decide), show f_Sh_redoOf N (0 + 1 + 1) u = _ from rc 2 (by omega), bd_some, k_Sh_round_5, if_pos (by decide)]
  obtain ⟨u1, hu1⟩ : ∃ u1, u1 = stM u 0 8 T := ⟨_, rfl⟩
  have u15 : u1 5 = u 5 := by rw [hu1, stM_ne (by decide)]
  obtain ⟨w, w1, w2⟩ := remC_loop (N := N) (κ := fun x v => some (x, v)) (T := T) (u := u1) 24 0 N 0 u1 rfl (by omega) ⟨fun _ _ => rfl, fun j => by rw [if_neg (by omega)]⟩
  rw [Nat.zero_add] at w1
  have wo : ∀ q, 15 ≤ q → w q = u q := fun q hq => by rw [w2.1 q (by omega), hu1, stM_ne (by omega)]
  have w15 := wo 15 (by decide)
  have cls : f_Sh_round N u = some (nI (cnF (fun s => ¬ u 5 s = -1 ∧ ¬ T ≤ u 5 s) 0 24), w) := by
    unfold f_Sh_round
    rw [show ∀ κ, k_Sh_round_5 N κ N 2147483647 0 u = k_Sh_round_5 N κ (N4 + 1 + 1 + 1 + 1) 2147483647 0 u from fun κ => by rw [← eN], unr]
    dsimp only [jn]
    rw [← hTe, ← hu1]
    have t8 : u1 0 8 = T := by rw [hu1, stM_rs, if_pos rfl]
    unfold f_Hp_removeEntriesBelow
    rw [t8, show k_Hp_removeEntriesBelow_4 N _ N T 0 0 u1 = _ from w1, bd_some, u15]
  obtain ⟨m1, hm1⟩ : ∃ m1, m1 = stM w 15 9 T := ⟨_, rfl⟩
  have m16 : m1 16 = u 16 := by rw [hm1, stM_ne (by decide)]; exact wo 16 (by decide)
  have m17 : m1 17 = u 17 := by rw [hm1, stM_ne (by decide)]; exact wo 17 (by decide)
  have m159 : m1 15 9 = T := by rw [hm1, stM_rs, if_pos rfl]
  obtain ⟨z, z1, z2⟩ := remM_loop (N := N) (M := M) (κ := fun x v => some (x, v)) (u := m1) (by rw [hm1, stM_rs, if_neg (by decide), w15]; exact e4) (by omega) M 1 N 0 m1 (by omega) (by omega) (Nat.le_refl _) ⟨fun _ _ => rfl, fun j => by rw [if_neg (by omega)]⟩
  rw [Nat.zero_add, m16, m17, m159] at z1
  rw [m16, m17, m159] at z2
  have rm : ∀ b, b < 3 → f_Md_redo N (nI b) w = some (R b, w) := fun b hb => by
    have := redo_eq (N := N) (S := S) (u := w) hN (by rw [w15]; exact e6) (by omega) hb
    rw [this, wo 21 (by decide), wo 22 (by decide), lsQ_congr (v := u) (q' := 23) S 0 _ (fun j _ _ => by rw [wo 23 (by decide)]), redo_same h hb, ← hR]
  have mdl : f_Md_round N w = some (nI (cnF (fun k => ¬ u 16 k < 0 ∧ ¬ u 17 k < 0 ∧ ¬ T ≤ u 17 k) 1 M), z) := by
    unfold f_Md_round
    rw [show f_Md_redo N 0 w = _ from rm 0 (by omega), bd_some, show f_Md_redo N 1 w = _ from rm 1 (by omega), bd_some]
    have fin : ∀ x : Int32, x = imn (imn (R 0) (R 1)) (R 2) → (if x ≤ w 15 9 then k_Md_round_68 N (fun (x27 : Int32) (u28 : Mem) => some (x27, u28)) N 0 1 (stM w 15 9 (w 15 9)) else k_Md_round_68 N (fun (x27 : Int32) (u28 : Mem) => some (x27, u28)) N 0 1 (stM w 15 9 x)) = some (nI (cnF (fun k => ¬ u 16 k < 0 ∧ ¬ u 17 k < 0 ∧ ¬ T ≤ u 17 k) 1 M), z) := by
      intro x hx
      have hT9 : (if x ≤ w 15 9 then w 15 9 else x) = T := by rw [imx_le2, w15, e8, hx, hTe]
      have e := z1
      rw [hm1] at e
      split
      · rename_i g
        rw [if_pos g] at hT9
        rw [hT9]
        exact e
      · rename_i g
        rw [if_neg g] at hT9
        rw [hT9]
        exact e
    dsimp only [jn]
    rw [show f_Md_redo N 2 w = _ from rm 2 (by omega)]
    have two : ∀ x : Int32, x = imn (R 0) (R 1) → bd (some (R 2, w)) (fun y9 u10 => if x ≤ y9 then (if x ≤ u10 15 9 then k_Md_round_68 N (fun (x27 : Int32) (u28 : Mem) => some (x27, u28)) N 0 1 (stM u10 15 9 (u10 15 9)) else k_Md_round_68 N (fun (x27 : Int32) (u28 : Mem) => some (x27, u28)) N 0 1 (stM u10 15 9 x)) else bd (f_Md_redo N 2 u10) (fun y30 u31 => if y30 ≤ u31 15 9 then k_Md_round_68 N (fun (x27 : Int32) (u28 : Mem) => some (x27, u28)) N 0 1 (stM u31 15 9 (u31 15 9)) else k_Md_round_68 N (fun (x27 : Int32) (u28 : Mem) => some (x27, u28)) N 0 1 (stM u31 15 9 y30))) = some (nI (cnF (fun k => ¬ u 16 k < 0 ∧ ¬ u 17 k < 0 ∧ ¬ T ≤ u 17 k) 1 M), z) := by
      intro x hx
      have g2 := imn_le2 x (R 2)
      rw [bd_some]
      split
      · rename_i g
        rw [if_pos g] at g2
        exact fin x (by rw [← hx, ← g2])
      · rename_i g
        rw [if_neg g] at g2
        rw [show f_Md_redo N 2 w = _ from rm 2 (by omega), bd_some]
        exact fin (R 2) (by rw [← hx, ← g2])
    have g1 := imn_le2 (R 0) (R 1)
    split
    · rename_i g
      rw [if_pos g] at g1
      exact two (R 0) g1
    · rename_i g
      rw [if_neg g] at g1
      rw [show f_Md_redo N 1 w = _ from rm 1 (by omega), bd_some, show f_Md_redo N 2 w = _ from rm 2 (by omega)]
      exact two (R 1) g1
  refine ⟨nI (cnF (fun s => ¬ u 5 s = -1 ∧ ¬ T ≤ u 5 s) 0 24), w, z, cls, by rw [mdl, cnt_entries h], t, M, S, X, ?_⟩
  refine sa_round (T := T) (h.more hc) hT (fun j => ?_) (fun j => ?_) (fun j => ?_) (fun j => ?_) (fun q b0 b5 b15 b17 => ?_)
  · rw [z2.1 0 (by decide), hm1, stM_ne (by decide), w2.1 0 (by decide), hu1, stM_rs]
  · rw [z2.1 15 (by decide), hm1, stM_rs, w15]
  · rw [z2.1 5 (by decide), hm1, stM_ne (by decide), w2.2, u15]
  · rw [z2.2 j, m17]
  · rw [z2.1 q b17, hm1, stM_ne b15, w2.1 q b5, hu1, stM_ne b0]
