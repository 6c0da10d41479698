/-! Pure: make. -/
theorem add_loop {N b s : Nat} {κ : Mem → Rs} {u : Mem} {M : Nat} (hM : u 2 3 = nI M) (hb : b < 3) (hs : s < 8 * b + 8) (hs0 : u 3 s = 0) : ∀ (d i n : Nat), i + d = s → d < n → 8 * b ≤ i → (∀ j, i ≤ j → j < s → ¬ u 3 j = 0) → k_Hp_add_5 N κ n (nI b) (nI i) u = some (nI (M + 1), stM (stM u 2 3 (nI (M + 1))) 3 s (nI (M + 1))) := by
  have e8 : (nI b + 1) * 8 = nI (8 * b + 8) := by
    rw [nI_1, show nI (b + 1) * 8 = nI ((b + 1) * 8) from pk_mul (b + 1) 8]
    congr 1
    omega
  intro d
  induction d with
  | zero =>
    intro i n hi hn hlo h
    obtain ⟨n, rfl, hn⟩ := succ_of hn
    have e : i = s := by omega
    subst e
    unfold k_Hp_add_5
    dsimp only [jn]
    rw [e8, if_neg (nI_ge (by omega) (by omega)), isTaken_eq (by omega), bd_some, if_pos hs0, if_pos rfl, gdN (by omega) (by omega)]
    simp (disch := omega) only [nI_clamp]
    rw [hM, nI_1]
    have q1 : stM u 2 3 (nI (M + 1)) 2 3 = nI (M + 1) := by rw [stM_eq]; exact pk_us
    have q2 : stM (stM u 2 3 (nI (M + 1))) 3 i (nI (M + 1)) 2 3 = nI (M + 1) := by rw [stM_ne (by decide), q1]
    rw [q1, q2]
  | succ d ih =>
    intro i n hi hn hlo h
    obtain ⟨n, rfl, hn⟩ := succ_of hn
    rw [k_Hp_add_5, e8, if_neg (nI_ge (by omega) (by omega)), isTaken_eq (by omega), bd_some, if_neg (h i (by omega) (by omega)), if_neg (by decide), nI_1]
    exact ih (i + 1) n (by omega) (by omega) (by omega) (fun j h1 h2 => h j (by omega) h2)
theorem first_free {P : Nat → Prop} [DecidablePred P] : ∀ (d i : Nat), cnF P i d < d → ∃ s, i ≤ s ∧ s < i + d ∧ ¬ P s ∧ ∀ j, i ≤ j → j < s → P j := by
  intro d
  induction d with
  | zero => intro i h; omega
  | succ d ih =>
    intro i h
    by_cases hp : P i
    · rw [cnF, if_pos hp] at h
      obtain ⟨s, a1, a2, a3, a4⟩ := ih (i + 1) (by omega)
      refine ⟨s, by omega, by omega, a3, fun j h1 h2 => ?_⟩
      by_cases e : j = i
      · rw [e]; exact hp
      · exact a4 j (by omega) h2
    · exact ⟨i, Nat.le_refl _, by omega, hp, fun j h1 h2 => by omega⟩
/-- a new object alike -/
theorem sa_make {c t M S X s b : Nat} {u z : Mem} (h : SA c t M S X u) (hM1 : M + 1 ≤ t) (hs : s < 24) (hsb : s / 8 = b) (hs0 : u 3 s = 0) (h2' : z 2 3 = nI (M + 1)) (h15 : ∀ j, z 15 j = if j = 1 then nI (M + 1) else u 15 j) (h3' : ∀ j, z 3 j = if j = s then nI (M + 1) else u 3 j) (h16 : ∀ j, z 16 j = if j = M + 1 then nI b else u 16 j) (h17 : ∀ j, z 17 j = if j = M + 1 then -1 else u 17 j) (ho : ∀ q, ¬ q = 2 → ¬ q = 3 → ¬ q = 15 → ¬ q = 16 → ¬ q = 17 → z q = u q) : SA c t (M + 1) S X z := by
  obtain ⟨⟨⟨c1, c2, c3, c4, c5⟩, e1, e2, e3, e4, e5, e6, e7, e8⟩, hR, hL, hQ, ⟨d3, h1, h2, h3, h4, h5, h6⟩, ⟨x1, x2, x3, x4, x5⟩⟩ := h
  have z0 := ho 0 (by decide) (by decide) (by decide) (by decide) (by decide)
  have z1 := ho 1 (by decide) (by decide) (by decide) (by decide) (by decide)
  have z4 := ho 4 (by decide) (by decide) (by decide) (by decide) (by decide)
  have z5 := ho 5 (by decide) (by decide) (by decide) (by decide) (by decide)
  have z6 := ho 6 (by decide) (by decide) (by decide) (by decide) (by decide)
  have z7 := ho 7 (by decide) (by decide) (by decide) (by decide) (by decide)
  have z8 := ho 8 (by decide) (by decide) (by decide) (by decide) (by decide)
  have z9 := ho 9 (by decide) (by decide) (by decide) (by decide) (by decide)
  have z10 := ho 10 (by decide) (by decide) (by decide) (by decide) (by decide)
  have z11 := ho 11 (by decide) (by decide) (by decide) (by decide) (by decide)
  have z12 := ho 12 (by decide) (by decide) (by decide) (by decide) (by decide)
  have z13 := ho 13 (by decide) (by decide) (by decide) (by decide) (by decide)
  have z18 := ho 18 (by decide) (by decide) (by decide) (by decide) (by decide)
  have z19 := ho 19 (by decide) (by decide) (by decide) (by decide) (by decide)
  have z20 := ho 20 (by decide) (by decide) (by decide) (by decide) (by decide)
  have z21 := ho 21 (by decide) (by decide) (by decide) (by decide) (by decide)
  have z22 := ho 22 (by decide) (by decide) (by decide) (by decide) (by decide)
  have z23 := ho 23 (by decide) (by decide) (by decide) (by decide) (by decide)
  obtain ⟨f1, f2, f3⟩ := h4 s hs hs0
  have old : ∀ s', s' < 24 → ∀ k, 1 ≤ k → k ≤ M → z 3 s' = nI k → ¬ s' = s ∧ u 3 s' = nI k := by
    intro s' q1 k q2 q3 q4
    rw [h3'] at q4
    by_cases e : s' = s
    · rw [if_pos e] at q4
      have := nI_inj q4 (by omega) (by omega)
      omega
    · rw [if_neg e] at q4
      exact ⟨e, q4⟩
  have old2 : ∀ s', s' < 24 → ∀ k, 1 ≤ k → k ≤ M → u 3 s' = nI k → z 3 s' = nI k := by
    intro s' q1 k q2 q3 q4
    rw [h3', if_neg (fun e => by rw [e, hs0] at q4; exact nI_ne0 (by omega) (by omega) q4.symm)]
    exact q4
  refine ⟨⟨⟨c1, c2, hM1, c4, c5⟩, by rw [z0]; exact e1, by rw [h15, if_neg (by decide)]; exact e2, h2', by rw [h15, if_pos rfl], by rw [z10]; exact e5, by rw [h15, if_neg (by decide)]; exact e6, by rw [z6]; exact e7, by rw [h15, if_neg (by decide), z0]; exact e8⟩, by unfold SR; rw [z1, z19]; exact hR, by unfold SL; rw [z0, z12, z13, z21, z22]; exact hL, by unfold SQ; rw [z11, z23]; exact hQ, ⟨?_, ?_, ?_, ?_, ?_, ?_, ?_⟩, ⟨fun i hi => ?_, by rw [z8]; exact x2, by unfold uniq78; rw [z7, z8]; exact x3, by rw [z7, z8, z20]; exact x4, by rw [z7, z9, z12]; exact x5⟩⟩
  · intro s1 s2 q1 q2 q3 q4
    rw [h3', h3'] at q3
    rw [h3'] at q4
    by_cases a : s1 = s
    · by_cases b : s2 = s
      · omega
      · rw [if_pos a, if_neg b] at q3
        obtain ⟨k, k1, k2⟩ := h1 s2 q2
        rw [k2] at q3
        have := nI_inj q3 (by omega) (by omega)
        omega
    · rw [if_neg a] at q3 q4
      by_cases b : s2 = s
      · rw [if_pos b] at q3
        obtain ⟨k, k1, k2⟩ := h1 s1 q1
        rw [k2] at q3
        have := nI_inj q3 (by omega) (by omega)
        omega
      · rw [if_neg b] at q3
        exact d3 s1 s2 q1 q2 q3 q4
  · intro s' q1
    rw [h3']
    by_cases a : s' = s
    · rw [if_pos a]; exact ⟨M + 1, Nat.le_refl _, rfl⟩
    · rw [if_neg a]
      obtain ⟨k, k1, k2⟩ := h1 s' q1
      exact ⟨k, by omega, k2⟩
  · intro s' k q1 q2 q3 q4
    by_cases ek : k = M + 1
    · have es : s' = s := by
        rw [h3'] at q4
        by_cases a : s' = s
        · exact a
        · rw [if_neg a] at q4
          obtain ⟨k', k1, k2⟩ := h1 s' q1
          rw [k2] at q4
          have := nI_inj q4 (by omega) (by omega)
          omega
      obtain ⟨g1, g2⟩ := h6 (M + 1) (by omega) (by omega)
      rw [h16, if_pos ek, h17, if_pos ek, z5, z18, z4, ek, es, hsb, f1, f2, f3, g1, g2]
      exact ⟨rfl, rfl, rfl, rfl⟩
    · obtain ⟨-, q5⟩ := old s' q1 k q2 (by omega) q4
      rw [h16, if_neg ek, h17, if_neg ek, z5, z18, z4]
      exact h2 s' k q1 q2 (by omega) q5
  · intro k q1 q2
    by_cases ek : k = M + 1
    · right
      exact ⟨s, hs, by rw [h3', if_pos rfl, ek]⟩
    · rw [h16, if_neg ek]
      rcases h3 k q1 (by omega) with g | ⟨s', g1, g2⟩
      · exact Or.inl g
      · exact Or.inr ⟨s', g1, old2 s' g1 k q1 (by omega) g2⟩
  · intro s' q1 q2
    rw [h3'] at q2
    by_cases a : s' = s
    · rw [if_pos a] at q2
      exact absurd q2 (nI_ne0 (by omega) (by omega))
    · rw [if_neg a] at q2
      rw [z5, z4]
      exact h4 s' q1 q2
  · rw [z5]; exact h5
  · intro k q1 q2
    rw [z18]
    exact h6 k (by omega) q2
  · obtain ⟨b', k', q1, q2, q3, q4, q5, q6, q7, q8, q9⟩ := x1 i hi
    rw [z7, z8, z9, z20, z12, z5]
    refine ⟨b', k', q1, q2, by omega, q4, q5, q6, q7, q8, fun q => ?_⟩
    obtain ⟨s', g1, g2, g3, g4⟩ := q9 q
    exact ⟨s', g1, old2 s' g1 k' q2 q3 g2, g3, g4⟩
theorem g_make {c N : Nat} {u : Mem} (h : Sim c u) (hc : c + 1 ≤ 512) (hN : 600 ≤ N) (a1 a2 a3 : Int32) : Good (c + 1) (f_Sh_make N a1 a2 a3 u) (f_Md_make N a1 a2 a3) := by
  by_cases hin : outR a1 3 ∨ outR a2 3
  · refine good_same (r := -1) (h.more hc) ?_ ?_
    · unfold f_Sh_make; rw [isRoot_f hin, bd_some, if_pos rfl]
    · unfold f_Md_make; rw [place_f hin, bd_some, if_pos rfl]
  rcases out_or a1 (n := 3) (by omega) with z | ⟨i, hi, rfl⟩
  · exact absurd (Or.inl z) hin
  rcases out_or a2 (n := 3) (by omega) with z | ⟨j, hj, rfl⟩
  · exact absurd (Or.inr z) hin
  rcases out_or a3 (n := 3) (by omega) with hz | ⟨b, hb, rfl⟩
  · refine good_same (r := -1) (h.more hc) ?_ ?_
    · unfold f_Sh_make; rw [isRoot_t hi hj, bd_some, if_neg (by decide), isNode_f hz, bd_some, if_pos rfl]
    · unfold f_Md_make; rw [place_t hi hj, bd_some, if_neg (by decide), within_f (n := 3) (by decide) (by omega) hz, bd_some, if_pos rfl]
  obtain ⟨t, M, S, X, h⟩ := h
  have hM := h.1.1
  have e1 := h.1.2.1
  have e2 := h.1.2.2.1
  have e3 := h.1.2.2.2.1
  have e4 := h.1.2.2.2.2.1
  have hcnt := cnt_slots h hb
  have hle := cnF_le (fun s => ¬ u 3 s = 0) 8 (8 * b)
  by_cases hfull : cnF (fun s => ¬ u 3 s = 0) (8 * b) 8 < 8
  · obtain ⟨s, s1, s2, s3, s4⟩ := first_free 8 (8 * b) hfull
    have hs0 : u 3 s = 0 := Classical.byContradiction s3
    obtain ⟨v0, hv0⟩ : ∃ v0, v0 = stM (stM (stM u 0 7 (nI (t + 1))) 2 3 (nI (M + 1))) 3 s (nI (M + 1)) := ⟨_, rfl⟩
    obtain ⟨v, hv⟩ : ∃ v, v = stM v0 1 (3 * i + j) (nI (M + 1)) := ⟨_, rfl⟩
    obtain ⟨u1, hu1⟩ : ∃ u1, u1 = stM (stM (stM (stM u 0 7 (nI (t + 1))) 1 (3 * i + j) (nI (M + 1))) 15 0 (nI (t + 1))) 19 (3 * i + j) (nI (M + 1)) := ⟨_, rfl⟩
    obtain ⟨mk, hmk⟩ : ∃ mk : Mem → Mem, ∀ x, mk x = stM (stM (stM (stM (stM x 15 0 (nI (t + 1))) 15 1 (nI (M + 1))) 16 (M + 1) (nI b)) 17 (M + 1) (-1)) 19 (3 * i + j) (nI (M + 1)) := ⟨_, fun _ => rfl⟩
    obtain ⟨hs1, hlt1⟩ := sa_tick (z := u1) h hc (by rw [hu1]; simp [stM_rd]) (by rw [hu1]; simp [stM_rd]) (fun q => by rw [hu1]; simp [stM_rd]) (fun q hq => by
      have := h.2.1 q hq
      rw [hu1]
      simp only [stM_rd]
      simp [this]) (fun q b0 b1 b15 b19 => by rw [hu1, stM_ne b19, stM_ne b15, stM_ne b1, stM_ne b0])
    have hs : SA (c + 1) (t + 1) (M + 1) S X (mk v) := sa_make (s := s) (b := b) (u := u1) hs1 (by omega) (by omega) (by omega) (by rw [hu1, stM_ne (by decide), stM_ne (by decide), stM_ne (by decide), stM_ne (by decide)]; exact hs0) (by rw [hmk, hv, hv0]; simp [stM_rd]) (fun q => by
      rw [hmk, hv, hv0, hu1]
      simp only [stM_rd]
      by_cases q1 : q = 1
      · subst q1; simp
      · by_cases q0 : q = 0
        · subst q0; simp
        · simp [q0, q1]) (fun q => by rw [hmk, hv, hv0, hu1]; simp [stM_rd]) (fun q => by rw [hmk, hv, hv0, hu1]; simp [stM_rd]) (fun q => by rw [hmk, hv, hv0, hu1]; simp [stM_rd]) (fun q b2 b3 b15 b16 b17 => by
      rw [hmk, hv, hv0, hu1]
      funext j'
      simp only [stM_rd]
      simp [b2, b3, b15, b16, b17])
    have hlt : ∀ n, n < 3 → (mk v 12 n).toInt < ((t + 1 : Nat) : Int) := fun n hn => by
      have := hlt1 n hn
      rw [hu1] at this
      rw [hmk, hv, hv0]
      simpa [stM_rd] using this
    have mkc : ∀ (x y : Mem) (q : Nat), x q = y q → mk x q = mk y q := fun x y q e => by rw [hmk, hmk]; exact stM_cong (stM_cong (stM_cong (stM_cong (stM_cong e))))
    have mkl : ∀ (x : Mem) (q : Nat), q < 15 → mk x q = x q := fun x q hq => by rw [hmk, stM_ne (by omega), stM_ne (by omega), stM_ne (by omega), stM_ne (by omega), stM_ne (by omega)]
    obtain ⟨w, w1, w2, w3, w4⟩ := carry_go (N := N) (v := v) (b := i) hN hs hlt (fun q hq => (mkl v q hq).symm) (nI (M + 1)) (nI b) hi
    have wv : ∀ q, 15 ≤ q → w q = u q := fun q hq => by rw [w2 q hq, hv, hv0, stM_ne (by omega), stM_ne (by omega), stM_ne (by omega), stM_ne (by omega)]
    have w15 : w 15 = u 15 := wv 15 (by decide)
    have hm2 : ∀ q, 15 ≤ q → mk w q = mk v q := fun q hq => mkc w v q (w2 q hq)
    have cls : f_Sh_make N (nI i) (nI j) (nI b) u = some (nI (M + 1), w) := by
      unfold f_Sh_make
      dsimp only [jn]
      rw [isRoot_t hi hj, bd_some, if_neg (by decide), isNode_t hb, bd_some, if_neg (by decide), countOn_eq hN hb, bd_some, if_pos (show nI _ < (8 : Int32) from nI_lt (b := 8) hfull (by omega)), e1, nI_1]
      have hadd : f_Hp_add N (nI b) (stM u 0 7 (nI (t + 1))) = some (nI (M + 1), v0) := by
        unfold f_Hp_add
        rw [show nI b * 8 = nI (8 * b) from by rw [show nI b * 8 = nI (b * 8) from pk_mul b 8, Nat.mul_comm], hv0]
        exact add_loop (M := M) (by rw [stM_ne (by decide)]; exact e3) hb (by omega) (by rw [stM_ne (by decide)]; exact hs0) (s - 8 * b) (8 * b) N (by omega) (by omega) (Nat.le_refl _) (fun j' q1 q2 => by rw [stM_ne (by decide)]; exact s4 j' q1 q2)
      rw [hadd, bd_some, root_eq, gdN (by omega) (by omega)]
      simp (disch := omega) only [nI_clamp]
      rw [← hv, w1, bd_some]
    have mdl : ∀ o, (if nI b = nI i then some (nI (M + 1), mk w) else bd (f_Md_arrive N (nI (M + 1)) (nI i) (mk w)) (fun _ u19 => some (u19 15 1, u19))) = o → f_Md_make N (nI i) (nI j) (nI b) w = o := by
      intro o ho
      rw [← ho]
      unfold f_Md_make
      dsimp only [jn]
      have hob : f_Md_objects N (nI b) w = some (nI (cnF (fun k => u 16 k = nI b) 1 M), w) := by
        have := objects_eq (N := N) (M := M) (b := b) (u := w) hN (by rw [w15]; exact e4) (by omega) hb
        rw [wv 16 (by decide)] at this
        exact this
      have c4 : w 15 0 + 1 = nI (t + 1) := by rw [w15, e2, nI_1]
      have c5 : stM w 15 0 (nI (t + 1)) 15 1 + 1 = nI (M + 1) := by
        rw [stM_rs, if_neg (by decide), w15, e4, nI_1]
      have c6 : ∀ x : Mem, x 15 1 = nI (M + 1) → x 15 1 = nI (M + 1) := fun _ z => z
      rw [place_t hi hj, bd_some, if_neg (by decide), within_t (n := 3) (by decide) hb (by omega), bd_some, if_neg (by decide), hob, bd_some, if_neg (show ¬ nI _ = (8 : Int32) from nI_ne (b := 8) (by omega) (by omega) (by omega)), c4, c5]
      have d1 : stM (stM w 15 0 (nI (t + 1))) 15 1 (nI (M + 1)) 15 1 = nI (M + 1) := by rw [stM_rs, if_pos rfl]
      have d2 : stM (stM (stM w 15 0 (nI (t + 1))) 15 1 (nI (M + 1))) 16 (M + 1) (nI b) 15 1 = nI (M + 1) := by rw [stM_ne (by decide), d1]
      have d3 : stM (stM (stM (stM w 15 0 (nI (t + 1))) 15 1 (nI (M + 1))) 16 (M + 1) (nI b)) 17 (M + 1) (-1) 15 1 = nI (M + 1) := by rw [stM_ne (by decide), d2]
      have d4 : mk w 15 1 = nI (M + 1) := by rw [hmk, stM_ne (by decide), d3]
      rw [d1, gdN (by omega) (by omega)]
      simp (disch := omega) only [nI_clamp]
      rw [d2, gdN (by omega) (by omega), root_eq2, gdN (by omega) (by omega)]
      simp (disch := omega) only [nI_clamp]
      rw [d3, ← hmk w, d4]
    by_cases hbi : nI b = nI i
    · have ew := w3 hbi
      refine ⟨nI (M + 1), w, mk w, cls, mdl _ (by rw [if_pos hbi]), t + 1, M + 1, S, X, ?_⟩
      rw [ew]
      exact hs
    · obtain ⟨z, X', z1, z2, z3⟩ := w4 hbi (mk w) (fun q hq => mkl w q hq) hm2
      refine ⟨nI (M + 1), w, z, cls, mdl _ ?_, t + 1, M + 1, S, X', z2⟩
      rw [if_neg hbi, z1, bd_some, z2.1.2.2.2.2.1]
  · refine good_same (r := -1) ⟨t, M, S, X, h.more hc⟩ ?_ ?_
    · unfold f_Sh_make; rw [isRoot_t hi hj, bd_some, if_neg (by decide), isNode_t hb, bd_some, if_neg (by decide), countOn_eq hN hb, bd_some, if_neg (show ¬ nI _ < (8 : Int32) from nI_nlt (b := 8) (by omega) (by omega))]
    · unfold f_Md_make; rw [place_t hi hj, bd_some, if_neg (by decide), within_t (n := 3) (by decide) hb (by omega), bd_some, if_neg (by decide), objects_eq hN e4 (by omega) hb, bd_some, if_pos (show nI _ = 8 from by rw [← hcnt, show cnF (fun s => ¬ u 3 s = 0) (8 * b) 8 = 8 by omega]; rfl)]
