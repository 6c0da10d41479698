/-! Pure: drop, move, load. -/
theorem upd_same {f g : Nat → Int32} {j n : Nat} {x : Int32} (h : ∀ i, i < n → f i = g i) : ∀ i, i < n → upd f j x i = upd g j x i := by
  intro i hi
  unfold upd
  split
  · rfl
  · exact h i hi
theorem g_drop {c N : Nat} {u : Mem} (h : Sim c u) (hc : c + 1 ≤ 512) (hN : 600 ≤ N) (a b : Int32) : Good (c + 1) (f_Sh_drop N a b u) (f_Md_drop N a b) := by
  by_cases hin : outR a 3 ∨ outR b 3
  · refine good_same (r := 0) (h.more hc) ?_ ?_
    · unfold f_Sh_drop; rw [isRoot_f hin, bd_some, if_pos rfl]
    · unfold f_Md_drop; rw [place_f hin, bd_some, if_pos rfl]
  · rcases out_or a (n := 3) (by omega) with z | ⟨i, hi, rfl⟩
    · exact absurd (Or.inl z) hin
    rcases out_or b (n := 3) (by omega) with z | ⟨j, hj, rfl⟩
    · exact absurd (Or.inr z) hin
    obtain ⟨t, M, S, X, h⟩ := h
    have e1 := h.1.2.1
    have e2 := h.1.2.2.1
    refine ⟨1, stM (stM u 0 7 (nI (t + 1))) 1 (3 * i + j) 0, stM (stM (stM (stM u 0 7 (nI (t + 1))) 1 (3 * i + j) 0) 15 0 (nI (t + 1))) 19 (3 * i + j) 0, ?_, ?_, t + 1, M, S, X, ?_⟩
    · unfold f_Sh_drop
      dsimp only [jn]
      rw [isRoot_t hi hj, bd_some, if_neg (by decide), root_eq, gdN (by omega) (by omega)]
      simp (disch := omega) only [nI_clamp]
      rw [e1, nI_1]
    · unfold f_Md_drop
      dsimp only [jn]
      rw [place_t hi hj, bd_some, if_neg (by decide), root_eq2, gdN (by omega) (by omega)]
      simp (disch := omega) only [nI_clamp]
      rw [stM_ne (by decide), stM_ne (by decide), e2, nI_1]
    · refine (sa_tick h hc ?_ ?_ ?_ ?_ ?_).1
      · simp [stM_rd]
      · simp [stM_rd]
      · intro q; simp [stM_rd]
      · intro q hq
        have := h.2.1 q hq
        simp only [stM_rd]
        simp [this]
      · intro q a0 a1 a15 a19
        rw [stM_ne a19, stM_ne a15, stM_ne a1, stM_ne a0]
theorem stM_cong {v w : Mem} {q p j : Nat} {x : Int32} (h : w q = v q) : stM w p j x q = stM v p j x q := by
  unfold stM
  rw [h]
theorem g_move {c N : Nat} {u : Mem} (h : Sim c u) (hc : c + 1 ≤ 512) (hN : 600 ≤ N) (a1 a2 a3 a4 : Int32) : Good (c + 1) (f_Sh_move N a1 a2 a3 a4 u) (f_Md_move N a1 a2 a3 a4) := by
  by_cases hin : outR a1 3 ∨ outR a2 3
  · refine good_same (r := 0) (h.more hc) ?_ ?_
    · unfold f_Sh_move; rw [isRoot_f hin, bd_some, if_pos rfl]
    · unfold f_Md_move; rw [place_f hin, bd_some, if_pos rfl]
  rcases out_or a1 (n := 3) (by omega) with z | ⟨i, hi, rfl⟩
  · exact absurd (Or.inl z) hin
  rcases out_or a2 (n := 3) (by omega) with z | ⟨j, hj, rfl⟩
  · exact absurd (Or.inr z) hin
  by_cases hin2 : outR a3 3 ∨ outR a4 3
  · refine good_same (r := 0) (h.more hc) ?_ ?_
    · unfold f_Sh_move; rw [isRoot_t hi hj, bd_some, if_neg (by decide), isRoot_f hin2, bd_some, if_pos rfl]
    · unfold f_Md_move; rw [place_t hi hj, bd_some, if_neg (by decide), place_f hin2, bd_some, if_pos rfl]
  rcases out_or a3 (n := 3) (by omega) with z | ⟨i', hi', rfl⟩
  · exact absurd (Or.inl z) hin2
  rcases out_or a4 (n := 3) (by omega) with z | ⟨j', hj', rfl⟩
  · exact absurd (Or.inr z) hin2
  by_cases hii : nI i = nI i'
  · refine good_same (r := 0) (h.more hc) ?_ ?_
    · unfold f_Sh_move; rw [isRoot_t hi hj, bd_some, if_neg (by decide), isRoot_t hi' hj', bd_some, if_neg (by decide), if_pos hii]
    · unfold f_Md_move; rw [place_t hi hj, bd_some, if_neg (by decide), place_t hi' hj', bd_some, if_neg (by decide), if_pos hii]
  obtain ⟨t, M, S, X, h⟩ := h
  have e1 := h.1.2.1
  have e2 := h.1.2.2.1
  obtain ⟨y, hy⟩ : ∃ y, y = u 1 (3 * i + j) := ⟨_, rfl⟩
  obtain ⟨v, hv⟩ : ∃ v, v = stM (stM u 0 7 (nI (t + 1))) 1 (3 * i' + j') y := ⟨_, rfl⟩
  obtain ⟨us, hus⟩ : ∃ us, us = stM (stM v 15 0 (nI (t + 1))) 19 (3 * i' + j') y := ⟨_, rfl⟩
  obtain ⟨hs, hlt⟩ := sa_tick (z := us) h hc (by rw [hus, hv]; simp [stM_rd]) (by rw [hus, hv]; simp [stM_rd]) (fun q => by rw [hus, hv]; simp [stM_rd]) (fun q hq => by
    have := h.2.1 q hq
    rw [hus, hv]
    simp only [stM_rd]
    simp [this]) (fun q b0 b1 b15 b19 => by rw [hus, hv, stM_ne b19, stM_ne b15, stM_ne b1, stM_ne b0])
  obtain ⟨w, w1, w2, w3, w4⟩ := carry_go (N := N) (v := v) (b := i') hN hs hlt (fun q hq => by rw [hus, stM_ne (by omega), stM_ne (by omega)]) y (nI i) hi'
  have v15 : v 15 0 = nI t := by rw [hv]; simp [stM_rd, e2]
  have w15 : w 15 = v 15 := w2 15 (by decide)
  obtain ⟨m, hm⟩ : ∃ m, m = stM (stM w 15 0 (nI (t + 1))) 19 (3 * i' + j') y := ⟨_, rfl⟩
  obtain ⟨z, X', z1, z2, -⟩ := w4 hii m (fun q hq => by rw [hm, stM_ne (by omega), stM_ne (by omega)]) (fun q hq => by rw [hm, hus]; exact stM_cong (stM_cong (w2 q hq)))
  refine ⟨1, w, z, ?_, ?_, t + 1, M, S, X', z2⟩
  · unfold f_Sh_move
    dsimp only [jn]
    rw [isRoot_t hi hj, bd_some, if_neg (by decide), isRoot_t hi' hj', bd_some, if_neg (by decide), if_neg hii, root_eq, root_eq, gdN (by omega) (by omega), gdN (by omega) (by omega)]
    simp (disch := omega) only [nI_clamp]
    rw [e1, nI_1, stM_ne (by decide), ← hy, ← hv, w1, bd_some]
  · unfold f_Md_move
    dsimp only [jn]
    have hy2 : w 19 (3 * i + j) = y := by
      rw [w2 19 (by decide), hv, stM_ne (by decide), stM_ne (by decide), hy]
      exact h.2.1 _ (by omega)
    rw [place_t hi hj, bd_some, if_neg (by decide), place_t hi' hj', bd_some, if_neg (by decide), if_neg hii, root_eq2, root_eq2, gdN (by omega) (by omega), gdN (by omega) (by omega)]
    simp (disch := omega) only [nI_clamp]
    rw [w15, v15, nI_1, stM_ne (by decide), hy2, ← hm, z1, bd_some]
