theorem g_store {c N : Nat} {u : Mem} (h : Sim c u) (hc : c + 1 ≤ 512) (hN : 600 ≤ N) (a1 a2 a3 a4 : Int32) : Good (c + 1) (f_Sh_store N a1 a2 a3 a4 u) (f_Md_store N a1 a2 a3 a4) := by
  by_cases hin : outR a1 3 ∨ outR a2 3
  · refine good_same (r := 0) (h.more hc) ?_ ?_
    · unfold f_Sh_store; rw [isRoot_f hin, bd_some, if_pos rfl]
    · unfold f_Md_store; rw [place_f hin, bd_some, if_pos rfl]
  rcases out_or a1 (n := 3) (by omega) with z | ⟨i, hi, rfl⟩
  · exact absurd (Or.inl z) hin
  rcases out_or a2 (n := 3) (by omega) with z | ⟨j, hj, rfl⟩
  · exact absurd (Or.inr z) hin
  rcases out_or a4 (n := 3) (by omega) with hz | ⟨j', hj', rfl⟩
  · refine good_same (r := 0) (h.more hc) ?_ ?_
    · unfold f_Sh_store; rw [isRoot_t hi hj, bd_some, if_neg (by decide), isRoot_f (Or.inr hz), bd_some, if_pos rfl]
    · unfold f_Md_store; rw [place_t hi hj, bd_some, if_neg (by decide), place_f (Or.inr hz), bd_some, if_pos rfl]
  rcases out_or a3 (n := 2) (by omega) with hz | ⟨f, hf, rfl⟩
  · refine good_same (r := 0) (h.more hc) ?_ ?_
    · unfold f_Sh_store; rw [isRoot_t hi hj, bd_some, if_neg (by decide), isRoot_t hi hj', bd_some, if_neg (by decide), isField_f hz, bd_some, if_pos rfl]
    · unfold f_Md_store; rw [place_t hi hj, bd_some, if_neg (by decide), place_t hi hj', bd_some, if_neg (by decide), within_f (n := 2) (by decide) (by omega) hz, bd_some, if_pos rfl]
  obtain ⟨t, M, S, X, h⟩ := h
  have hM := h.1.1
  have e1 := h.1.2.1
  have e2 := h.1.2.2.1
  have e4 := h.1.2.2.2.2.1
  have hr := h.2.1 (3 * i + j) (by omega)
  have hr' := h.2.1 (3 * i + j') (by omega)
  rcases slot_or h (u 1 (3 * i + j)) hN with ⟨g1, g2, -⟩ | ⟨s, k, s1, k1, k2, ek, s2, g1, g2⟩
  · refine good_same (r := 0) ⟨t, M, S, X, h.more hc⟩ ?_ ?_
    · unfold f_Sh_store
      rw [isRoot_t hi hj, bd_some, if_neg (by decide), isRoot_t hi hj', bd_some, if_neg (by decide), isField_t hf, bd_some, if_neg (by decide), root_eq, gdN (by omega) (by omega)]
      simp (disch := omega) only [nI_clamp]
      rw [g1, bd_some, if_pos rfl]
    · unfold f_Md_store
      rw [place_t hi hj, bd_some, if_neg (by decide), place_t hi hj', bd_some, if_neg (by decide), within_t (n := 2) (by decide) hf (by omega), bd_some, if_neg (by decide), root_eq2, gdN (by omega) (by omega)]
      simp (disch := omega) only [nI_clamp]
      rw [hr, g2, bd_some, if_pos rfl]
  · obtain ⟨q16, q17, q18a, q18b⟩ := h.2.2.2.2.1.2.2.1 s k s1 k1 k2 s2
    obtain ⟨y, hy⟩ : ∃ y, y = u 1 (3 * i + j') := ⟨_, rfl⟩
    obtain ⟨v, hv⟩ : ∃ v, v = stM (stM u 0 7 (nI (t + 1))) 4 (2 * s + f) y := ⟨_, rfl⟩
    obtain ⟨u1, hu1⟩ : ∃ u1, u1 = stM (stM u 0 7 (nI (t + 1))) 15 0 (nI (t + 1)) := ⟨_, rfl⟩
    obtain ⟨us, hus⟩ : ∃ us, us = stM (stM v 15 0 (nI (t + 1))) 18 (2 * k + f) y := ⟨_, rfl⟩
    obtain ⟨hs1, hlt1⟩ := sa_tick (z := u1) h hc (by rw [hu1]; simp [stM_rd]) (by rw [hu1]; simp [stM_rd]) (fun q => by rw [hu1]; simp [stM_rd]) (fun q hq => by
      rw [hu1, stM_ne (by decide), stM_ne (by decide), stM_ne (by decide), stM_ne (by decide)]
      exact h.2.1 q hq) (fun q b0 b1 b15 b19 => by rw [hu1, stM_ne b15, stM_ne b0])
    have hs : SA (c + 1) (t + 1) M S X us := sa_field (s := s) (k := k) (f := f) (y := y) (u := u1) hs1 s1 k1 k2 (by rw [hu1, stM_ne (by decide), stM_ne (by decide)]; exact s2) hf (fun q => by rw [hus, hv, hu1]; simp [stM_rd]) (fun q => by rw [hus, hv, hu1]; simp [stM_rd]) (fun q b4 b18 => by
      rw [hus, hv, hu1, stM_ne b18]
      by_cases q15 : q = 15
      · subst q15
        rw [stM_eq, stM_eq, stM_ne (by decide)]
      · rw [stM_ne q15, stM_ne q15, stM_ne b4])
    have hlt : ∀ n, n < 3 → (us 12 n).toInt < ((t + 1 : Nat) : Int) := fun n hn => by
      have := hlt1 n hn
      rw [hu1, stM_ne (by decide), stM_ne (by decide)] at this
      rw [hus, hv, stM_ne (by decide), stM_ne (by decide), stM_ne (by decide), stM_ne (by decide)]
      exact this
    obtain ⟨w, w1, w2, w3, w4⟩ := carry_go (N := N) (v := v) (b := s / 8) hN hs hlt (fun q hq => by rw [hus, stM_ne (by omega), stM_ne (by omega)]) y (nI i) (by omega)
    have wv : ∀ q, 15 ≤ q → w q = u q := fun q hq => by rw [w2 q hq, hv, stM_ne (by omega), stM_ne (by omega)]
    have w15 : w 15 = u 15 := wv 15 (by decide)
    have w19 : w 19 = u 19 := wv 19 (by decide)
    have w16 : w 16 = u 16 := wv 16 (by decide)
    obtain ⟨m, hm⟩ : ∃ m, m = stM (stM w 15 0 (nI (t + 1))) 18 (2 * k + f) y := ⟨_, rfl⟩
    have hm1 : ∀ q, q < 15 → m q = w q := fun q hq => by rw [hm, stM_ne (by omega), stM_ne (by omega)]
    have hm2 : ∀ q, 15 ≤ q → m q = us q := fun q hq => by rw [hm, hus]; exact stM_cong (stM_cong (w2 q hq))
    have there2 : f_Md_there N (nI k) w = some (1, w) := there_t (M := M) (by rw [w15]; exact e4) (by omega) k1 k2 (by rw [w16, q16]; exact nI_pos (by omega))
    have cls : f_Sh_store N (nI i) (nI j) (nI f) (nI j') u = some (1, w) := by
      unfold f_Sh_store
      dsimp only [jn]
      rw [isRoot_t hi hj, bd_some, if_neg (by decide), isRoot_t hi hj', bd_some, if_neg (by decide), isField_t hf, bd_some, if_neg (by decide), root_eq, gdN (by omega) (by omega)]
      simp (disch := omega) only [nI_clamp]
      rw [g1, bd_some, if_neg (m1_ne (by omega)), e1, nI_1, root_eq, gdN (by omega) (by omega)]
      simp (disch := omega) only [nI_clamp]
      rw [stM_ne (by decide), ← hy, setField_eq s1 hf, bd_some, ← hv, nodeOf_eq (by omega), bd_some, w1, bd_some]
    have mdl : ∀ o, (if nI (s / 8) = nI i then some (1, m) else bd (f_Md_arrive N y (nI (s / 8)) m) (fun _ u22 => some (1, u22))) = o → f_Md_store N (nI i) (nI j) (nI f) (nI j') w = o := by
      intro o ho
      rw [← ho]
      unfold f_Md_store
      dsimp only [jn]
      have c1 : stM w 15 0 (nI (t + 1)) 19 = u 19 := by rw [stM_ne (by decide), w19]
      have c3 : m 16 = u 16 := by rw [hm, stM_ne (by decide), stM_ne (by decide), w16]
      have c4 : w 15 0 + 1 = nI (t + 1) := by rw [w15, e2, nI_1]
      rw [place_t hi hj, bd_some, if_neg (by decide), place_t hi hj', bd_some, if_neg (by decide), within_t (n := 2) (by decide) hf (by omega), bd_some, if_neg (by decide), root_eq2, gdN (by omega) (by omega)]
      simp (disch := omega) only [nI_clamp]
      rw [w19, hr, ek, there2, bd_some, if_neg (by decide), c4, gdN (by omega) (by omega), c1, hr, ek, root_eq2, gdN (by omega) (by omega)]
      simp (disch := omega) only [nI_clamp]
      rw [hr', ← hy, two_eq, gdN (by omega) (by omega)]
      simp (disch := omega) only [nI_clamp]
      rw [← hm, gdN (by omega) (by omega), c3, q16, gdN (by omega) (by omega)]
    by_cases hb : nI (s / 8) = nI i
    · have ew := w3 hb.symm
      refine ⟨1, w, m, cls, mdl _ (by rw [if_pos hb]), t + 1, M, S, X, ?_⟩
      have em : m = us := by
        funext q
        by_cases hq : q < 15
        · rw [hm1 q hq, ew, hus, stM_ne (by omega), stM_ne (by omega)]
        · exact hm2 q (by omega)
      rw [em]
      exact hs
    · obtain ⟨z, X', z1, z2, -⟩ := w4 (fun q => hb q.symm) m hm1 hm2
      exact ⟨1, w, z, cls, mdl _ (by rw [if_neg hb, z1, bd_some]), t + 1, M, S, X', z2⟩
