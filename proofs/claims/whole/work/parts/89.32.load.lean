/-! Pure: load, store. -/
theorem g_load {c N : Nat} {u : Mem} (h : Sim c u) (hc : c + 1 ≤ 512) (hN : 600 ≤ N) (a1 a2 a3 a4 : Int32) : Good (c + 1) (f_Sh_load N a1 a2 a3 a4 u) (f_Md_load N a1 a2 a3 a4) := by
  by_cases hin : outR a1 3 ∨ outR a2 3
  · refine good_same (r := -1) (h.more hc) ?_ ?_
    · unfold f_Sh_load; rw [isRoot_f hin, bd_some, if_pos rfl]
    · unfold f_Md_load; rw [place_f hin, bd_some, if_pos rfl]
  rcases out_or a1 (n := 3) (by omega) with z | ⟨i, hi, rfl⟩
  · exact absurd (Or.inl z) hin
  rcases out_or a2 (n := 3) (by omega) with z | ⟨j, hj, rfl⟩
  · exact absurd (Or.inr z) hin
  rcases out_or a4 (n := 3) (by omega) with hz | ⟨j', hj', rfl⟩
  · refine good_same (r := -1) (h.more hc) ?_ ?_
    · unfold f_Sh_load; rw [isRoot_t hi hj, bd_some, if_neg (by decide), isRoot_f (Or.inr hz), bd_some, if_pos rfl]
    · unfold f_Md_load; rw [place_t hi hj, bd_some, if_neg (by decide), place_f (Or.inr hz), bd_some, if_pos rfl]
  rcases out_or a3 (n := 2) (by omega) with hz | ⟨f, hf, rfl⟩
  · refine good_same (r := -1) (h.more hc) ?_ ?_
    · unfold f_Sh_load; rw [isRoot_t hi hj, bd_some, if_neg (by decide), isRoot_t hi hj', bd_some, if_neg (by decide), isField_f hz, bd_some, if_pos rfl]
    · unfold f_Md_load; rw [place_t hi hj, bd_some, if_neg (by decide), place_t hi hj', bd_some, if_neg (by decide), within_f (n := 2) (by decide) (by omega) hz, bd_some, if_pos rfl]
  obtain ⟨t, M, S, X, h⟩ := h
  have hM := h.1.1
  have e1 := h.1.2.1
  have e2 := h.1.2.2.1
  have e4 := h.1.2.2.2.2.1
  have hr := h.2.1 (3 * i + j) (by omega)
  rcases slot_or h (u 1 (3 * i + j)) hN with ⟨g1, g2, -⟩ | ⟨s, k, s1, k1, k2, ek, s2, g1, g2⟩
  · refine good_same (r := -1) ⟨t, M, S, X, h.more hc⟩ ?_ ?_
    · unfold f_Sh_load
      rw [isRoot_t hi hj, bd_some, if_neg (by decide), isRoot_t hi hj', bd_some, if_neg (by decide), isField_t hf, bd_some, if_neg (by decide), root_eq, gdN (by omega) (by omega)]
      simp (disch := omega) only [nI_clamp]
      rw [g1, bd_some, if_pos rfl]
    · unfold f_Md_load
      rw [place_t hi hj, bd_some, if_neg (by decide), place_t hi hj', bd_some, if_neg (by decide), within_t (n := 2) (by decide) hf (by omega), bd_some, if_neg (by decide), root_eq2, gdN (by omega) (by omega)]
      simp (disch := omega) only [nI_clamp]
      rw [hr, g2, bd_some, if_pos rfl]
  · obtain ⟨q16, q17, q18a, q18b⟩ := h.2.2.2.2.1.2.2.1 s k s1 k1 k2 s2
    obtain ⟨y, hy⟩ : ∃ y, y = u 4 (2 * s + f) := ⟨_, rfl⟩
    have hy18 : u 18 (2 * k + f) = y := by
      rw [hy]
      rcases (show f = 0 ∨ f = 1 by omega) with rfl | rfl
      · exact q18a
      · exact q18b
    obtain ⟨v, hv⟩ : ∃ v, v = stM (stM u 0 7 (nI (t + 1))) 1 (3 * i + j') y := ⟨_, rfl⟩
    obtain ⟨us, hus⟩ : ∃ us, us = stM (stM v 15 0 (nI (t + 1))) 19 (3 * i + j') y := ⟨_, rfl⟩
    obtain ⟨hs, hlt⟩ := sa_tick (z := us) h hc (by rw [hus, hv]; simp [stM_rd]) (by rw [hus, hv]; simp [stM_rd]) (fun q => by rw [hus, hv]; simp [stM_rd]) (fun q hq => by
      have := h.2.1 q hq
      rw [hus, hv]
      simp only [stM_rd]
      simp [this]) (fun q b0 b1 b15 b19 => by rw [hus, hv, stM_ne b19, stM_ne b15, stM_ne b1, stM_ne b0])
    obtain ⟨w, w1, w2, w3, w4⟩ := carry_go (N := N) (v := v) (b := i) hN hs hlt (fun q hq => by rw [hus, stM_ne (by omega), stM_ne (by omega)]) y (nI (s / 8)) hi
    have wv : ∀ q, 15 ≤ q → ¬ q = 0 → ¬ q = 1 → w q = u q := fun q hq _ _ => by rw [w2 q hq, hv, stM_ne (by omega), stM_ne (by omega)]
    have w15 : w 15 = u 15 := wv 15 (by decide) (by decide) (by decide)
    have w19 : w 19 = u 19 := wv 19 (by decide) (by decide) (by decide)
    have w18 : w 18 = u 18 := wv 18 (by decide) (by decide) (by decide)
    have w16 : w 16 = u 16 := wv 16 (by decide) (by decide) (by decide)
    obtain ⟨m, hm⟩ : ∃ m, m = stM (stM w 15 0 (nI (t + 1))) 19 (3 * i + j') y := ⟨_, rfl⟩
    have hm1 : ∀ q, q < 15 → m q = w q := fun q hq => by rw [hm, stM_ne (by omega), stM_ne (by omega)]
    have hm2 : ∀ q, 15 ≤ q → m q = us q := fun q hq => by rw [hm, hus]; exact stM_cong (stM_cong (w2 q hq))
    have there2 : f_Md_there N (nI k) w = some (1, w) := there_t (M := M) (by rw [w15]; exact e4) (by omega) k1 k2 (by rw [w16, q16]; exact nI_pos (by omega))
    have cls : f_Sh_load N (nI i) (nI j) (nI f) (nI j') u = some (y, w) := by
      unfold f_Sh_load
      dsimp only [jn]
      rw [isRoot_t hi hj, bd_some, if_neg (by decide), isRoot_t hi hj', bd_some, if_neg (by decide), isField_t hf, bd_some, if_neg (by decide), root_eq, gdN (by omega) (by omega)]
      simp (disch := omega) only [nI_clamp]
      rw [g1, bd_some, if_neg (m1_ne (by omega)), e1, nI_1, fieldAt_eq s1 hf, bd_some, stM_ne (by decide), ← hy, root_eq, gdN (by omega) (by omega)]
      simp (disch := omega) only [nI_clamp]
      rw [← hv, nodeOf_eq (by omega), bd_some, w1, bd_some]
    have mdl : ∀ o, (if nI (s / 8) = nI i then some (y, m) else bd (f_Md_arrive N y (nI i) m) (fun _ u21 => some (y, u21))) = o → f_Md_load N (nI i) (nI j) (nI f) (nI j') w = o := by
      intro o ho
      rw [← ho]
      unfold f_Md_load
      dsimp only [jn]
      have c1 : stM w 15 0 (nI (t + 1)) 19 = u 19 := by rw [stM_ne (by decide), w19]
      have c2 : stM w 15 0 (nI (t + 1)) 18 = u 18 := by rw [stM_ne (by decide), w18]
      have c3 : m 16 = u 16 := by rw [hm, stM_ne (by decide), stM_ne (by decide), w16]
      have c4 : w 15 0 + 1 = nI (t + 1) := by rw [w15, e2, nI_1]
      rw [place_t hi hj, bd_some, if_neg (by decide), place_t hi hj', bd_some, if_neg (by decide), within_t (n := 2) (by decide) hf (by omega), bd_some, if_neg (by decide), root_eq2, gdN (by omega) (by omega)]
      simp (disch := omega) only [nI_clamp]
      rw [w19, hr, ek, there2, bd_some, if_neg (by decide), c4, gdN (by omega) (by omega), c1, hr, ek, two_eq, gdN (by omega) (by omega)]
      simp (disch := omega) only [nI_clamp]
      rw [c2, hy18, root_eq2, gdN (by omega) (by omega)]
      simp (disch := omega) only [nI_clamp]
      rw [← hm, gdN (by omega) (by omega), c3, q16]
    by_cases hb : nI (s / 8) = nI i
    · have ew := w3 hb
      refine ⟨y, w, m, cls, mdl _ (by rw [if_pos hb]), t + 1, M, S, X, ?_⟩
      have em : m = us := by
        funext q
        by_cases hq : q < 15
        · rw [hm1 q hq, ew, hus, stM_ne (by omega), stM_ne (by omega)]
        · exact hm2 q (by omega)
      rw [em]
      exact hs
    · obtain ⟨z, X', z1, z2, -⟩ := w4 hb m hm1 hm2
      exact ⟨y, w, z, cls, mdl _ (by rw [if_neg hb, z1, bd_some]), t + 1, M, S, X', z2⟩
/-- a field written alike -/
theorem sa_field {c t M S X s k f : Nat} {y : Int32} {u z : Mem} (h : SA c t M S X u) (hs : s < 24) (hk : 1 ≤ k) (hk2 : k ≤ M) (h3 : u 3 s = nI k) (hf : f < 2) (h4 : ∀ j, z 4 j = if j = 2 * s + f then y else u 4 j) (h18 : ∀ j, z 18 j = if j = 2 * k + f then y else u 18 j) (ho : ∀ q, ¬ q = 4 → ¬ q = 18 → z q = u q) : SA c t M S X z := by
  have hM := h.1.1
  obtain ⟨hC, hR, hL, hQ, ⟨d3, h1, h2, h3', h4', h5, h6⟩, hX⟩ := h
  have z0 := ho 0 (by decide) (by decide)
  have z1 := ho 1 (by decide) (by decide)
  have z2 := ho 2 (by decide) (by decide)
  have z3 := ho 3 (by decide) (by decide)
  have z5 := ho 5 (by decide) (by decide)
  have z6 := ho 6 (by decide) (by decide)
  have z7 := ho 7 (by decide) (by decide)
  have z8 := ho 8 (by decide) (by decide)
  have z9 := ho 9 (by decide) (by decide)
  have z10 := ho 10 (by decide) (by decide)
  have z11 := ho 11 (by decide) (by decide)
  have z12 := ho 12 (by decide) (by decide)
  have z13 := ho 13 (by decide) (by decide)
  have z15 := ho 15 (by decide) (by decide)
  have z16 := ho 16 (by decide) (by decide)
  have z17 := ho 17 (by decide) (by decide)
  have z19 := ho 19 (by decide) (by decide)
  have z20 := ho 20 (by decide) (by decide)
  have z21 := ho 21 (by decide) (by decide)
  have z22 := ho 22 (by decide) (by decide)
  have z23 := ho 23 (by decide) (by decide)
  refine ⟨by unfold SC; rw [z0, z2, z6, z10, z15]; exact hC, by unfold SR; rw [z1, z19]; exact hR, by unfold SL; rw [z0, z12, z13, z21, z22]; exact hL, by unfold SQ; rw [z11, z23]; exact hQ, ⟨by unfold dist3; rw [z3]; exact d3, by rw [z3]; exact h1, fun s' k' q1 q2 q3 q4 => ?_, by rw [z3, z16]; exact h3', fun s' q1 q2 => ?_, by rw [z5]; exact h5, fun k' q1 q2 => ?_⟩, by unfold SX uniq78; rw [z3, z5, z7, z8, z9, z12, z20]; exact hX⟩
  · rw [z3] at q4
    obtain ⟨g1, g2, g3, g4⟩ := h2 s' k' q1 q2 q3 q4
    refine ⟨by rw [z16]; exact g1, by rw [z17, z5]; exact g2, ?_, ?_⟩
    all_goals
      rw [h18, h4]
      by_cases e : s' = s
      · have ek : k' = k := nI_inj (q4.symm.trans (by rw [e]; exact h3)) (by omega) (by omega)
        subst e; subst ek
        split
        · rw [if_pos (by omega)]
        · rw [if_neg (by omega)]; assumption
      · have ek : ¬ k' = k := by
          intro z
          rw [z] at q4
          exact e (d3 s' s q1 hs (q4.trans h3.symm) (by rw [q4]; exact nI_ne0 (by omega) (by omega)))
        rw [if_neg (by omega), if_neg (by omega)]
        assumption
  · rw [z3] at q2
    obtain ⟨g1, g2, g3⟩ := h4' s' q1 q2
    have e : ¬ s' = s := by
      intro z
      rw [z, h3] at q2
      exact nI_ne0 (by omega) (by omega) q2
    refine ⟨by rw [z5]; exact g1, ?_, ?_⟩
    · rw [h4, if_neg (by omega)]; exact g2
    · rw [h4, if_neg (by omega)]; exact g3
  · obtain ⟨g1, g2⟩ := h6 k' q1 q2
    refine ⟨?_, ?_⟩
    · rw [h18, if_neg (by omega)]; exact g1
    · rw [h18, if_neg (by omega)]; exact g2
