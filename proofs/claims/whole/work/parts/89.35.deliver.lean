/-! Pure: deliver. -/
/-- an entry raised alike -/
theorem sa_entry {c t M S X s k : Nat} {E L : Int32} {u z : Mem} (h : SA c t M S X u) (hs : s < 24) (hk : 1 ≤ k) (hk2 : k ≤ M) (h3 : u 3 s = nI k) (hE : 0 ≤ E.toInt ∧ E.toInt ≤ t) (hge : (u 5 s).toInt ≤ E.toInt) (z5 : ∀ j, z 5 j = if j = s then E else u 5 j) (z17 : ∀ j, z 17 j = if j = k then E else u 17 j) (z13 : ∀ j, z 13 j = if j = s / 8 then L else u 13 j) (z22 : ∀ j, z 22 j = if j = s / 8 then L else u 22 j) (ho : ∀ q, ¬ q = 5 → ¬ q = 13 → ¬ q = 17 → ¬ q = 22 → z q = u q) : SA c t M S X z := by
  have hM := h.1.1
  obtain ⟨hC, hR, hL, hQ, ⟨d3, h1, h2, h4, h5, h6, h7⟩, ⟨x1, x2, x3, x4, x5⟩⟩ := h
  have z0 := ho 0 (by decide) (by decide) (by decide) (by decide)
  have z1 := ho 1 (by decide) (by decide) (by decide) (by decide)
  have z2 := ho 2 (by decide) (by decide) (by decide) (by decide)
  have z3 := ho 3 (by decide) (by decide) (by decide) (by decide)
  have z4 := ho 4 (by decide) (by decide) (by decide) (by decide)
  have z6 := ho 6 (by decide) (by decide) (by decide) (by decide)
  have z7 := ho 7 (by decide) (by decide) (by decide) (by decide)
  have z8 := ho 8 (by decide) (by decide) (by decide) (by decide)
  have z9 := ho 9 (by decide) (by decide) (by decide) (by decide)
  have z10 := ho 10 (by decide) (by decide) (by decide) (by decide)
  have z11 := ho 11 (by decide) (by decide) (by decide) (by decide)
  have z12 := ho 12 (by decide) (by decide) (by decide) (by decide)
  have z15 := ho 15 (by decide) (by decide) (by decide) (by decide)
  have z16 := ho 16 (by decide) (by decide) (by decide) (by decide)
  have z18 := ho 18 (by decide) (by decide) (by decide) (by decide)
  have z19 := ho 19 (by decide) (by decide) (by decide) (by decide)
  have z20 := ho 20 (by decide) (by decide) (by decide) (by decide)
  have z21 := ho 21 (by decide) (by decide) (by decide) (by decide)
  have z23 := ho 23 (by decide) (by decide) (by decide) (by decide)
  have ge : ∀ j, (u 5 j).toInt ≤ (z 5 j).toInt := by
    intro j
    rw [z5]
    by_cases e : j = s
    · rw [if_pos e, e]; exact hge
    · rw [if_neg e]; exact Int.le_refl _
  refine ⟨by unfold SC; rw [z0, z2, z6, z10, z15]; exact hC, by unfold SR; rw [z1, z19]; exact hR, fun n hn => ?_, by unfold SQ; rw [z11, z23]; exact hQ, ⟨by unfold dist3; rw [z3]; exact d3, by rw [z3]; exact h1, fun s' k' q1 q2 q3 q4 => ?_, by rw [z3, z16]; exact h4, fun s' q1 q2 => ?_, fun s' q1 => ?_, by rw [z18]; exact h7⟩, ⟨fun i hi => ?_, by rw [z8]; exact x2, by unfold uniq78; rw [z7, z8]; exact x3, by rw [z7, z8, z20]; exact x4, by rw [z7, z9, z12]; exact x5⟩⟩
  · obtain ⟨q1, q2, q3, q4, q5⟩ := hL n hn
    rw [z12, z21, z0, z13, z22]
    refine ⟨q1, ?_, q3, q4, q5⟩
    split
    · rfl
    · exact q2
  · rw [z3] at q4
    obtain ⟨g1, g2, g3, g4⟩ := h2 s' k' q1 q2 q3 q4
    refine ⟨by rw [z16]; exact g1, ?_, by rw [z18, z4]; exact g3, by rw [z18, z4]; exact g4⟩
    rw [z17, z5]
    by_cases e : s' = s
    · have ek : k' = k := nI_inj (q4.symm.trans (by rw [e]; exact h3)) (by omega) (by omega)
      rw [if_pos ek, if_pos e]
    · have ek : ¬ k' = k := by
        intro z
        rw [z] at q4
        exact e (d3 s' s q1 hs (q4.trans h3.symm) (by rw [q4]; exact nI_ne0 (by omega) (by omega)))
      rw [if_neg ek, if_neg e]
      exact g2
  · rw [z3] at q2
    obtain ⟨g1, g2, g3⟩ := h5 s' q1 q2
    have e : ¬ s' = s := by
      intro z
      rw [z, h3] at q2
      exact nI_ne0 (by omega) (by omega) q2
    rw [z5, if_neg e, z4]
    exact ⟨g1, g2, g3⟩
  · rw [z5]
    by_cases e : s' = s
    · rw [if_pos e]; exact Or.inr hE
    · rw [if_neg e]; exact h6 s' q1
  · obtain ⟨b', k', q1, q2, q3, q4, q5, q6, q7, q8, q9⟩ := x1 i hi
    rw [z7, z8, z9, z20, z12, z3]
    refine ⟨b', k', q1, q2, q3, q4, q5, q6, q7, q8, fun q => ?_⟩
    obtain ⟨s', g1, g2, g3, g4⟩ := q9 q
    exact ⟨s', g1, g2, g3, Int.le_trans g4 (ge s')⟩
/-- four places down, from a on up to e -/
def shD (u w : Mem) (q a e : Nat) : Prop := (∀ p, ¬ p = q → w p = u p) ∧ ∀ j, w q j = if a ≤ j ∧ j < e then u q (j + 4) else u q j
theorem shD_step {u w : Mem} {q a i : Nat} (h : shD u w q a i) (hi : a ≤ i) : shD u (stM w q i (w q (i + 4))) q a (i + 1) := by
  refine ⟨fun p hp => by rw [stM_ne hp]; exact h.1 p hp, fun j => ?_⟩
  rw [stM_rs]
  by_cases e : j = i
  · rw [if_pos e, h.2, if_neg (by omega), if_pos (by omega), e]
  · rw [if_neg e, h.2]
    by_cases g : a ≤ j ∧ j < i
    · rw [if_pos g, if_pos (by omega)]
    · rw [if_neg g, if_neg (by omega)]
theorem qrem_loop {N S a : Nat} {κ : Mem → Rs} {u : Mem} (hS : u 10 1 = nI S) (hS0 : 1 ≤ S) (hS2 : S ≤ 40) : ∀ (d i n : Nat) (w : Mem), i + d = 4 * (S - 1) → d < n → a ≤ i → shD u w 11 a i → ∃ w2, k_Qu_removeAt_4 N κ n (nI i) w = κ w2 ∧ shD u w2 11 a (4 * (S - 1)) := by
  have e4 : ∀ w : Mem, w 10 = u 10 → (w 10 1 - 1) * 4 = nI (4 * (S - 1)) := by
    intro w e
    rw [e, hS, show nI S - 1 = nI (S - 1) from pk_sub (b := 1) hS0, show nI (S - 1) * 4 = nI ((S - 1) * 4) from pk_mul (S - 1) 4, Nat.mul_comm]
  intro d
  induction d with
  | zero =>
    intro i n w hi hn ha h
    obtain ⟨n, rfl, hn⟩ := succ_of hn
    refine ⟨w, ?_, by rw [← hi]; exact h⟩
    rw [k_Qu_removeAt_4, e4 w (h.1 10 (by decide)), if_pos (nI_le (by omega) (by omega))]
  | succ d ih =>
    intro i n w hi hn ha h
    obtain ⟨n, rfl, hn⟩ := succ_of hn
    obtain ⟨w2, g1, g2⟩ := ih (i + 1) n (stM w 11 i (w 11 (i + 4))) (by omega) (by omega) (by omega) (shD_step h ha)
    refine ⟨w2, ?_, g2⟩
    unfold k_Qu_removeAt_4
    dsimp only [jn]
    rw [e4 w (h.1 10 (by decide)), if_neg (nI_ge (by omega) (by omega)), show nI i + 4 = nI (i + 4) from nI_add i 4, gdN (by omega) (by omega), gdN (by omega) (by omega)]
    simp (disch := omega) only [nI_clamp]
    rw [nI_1]
    exact g1
theorem qrem_eq {N S i : Nat} {u : Mem} (hN : 600 ≤ N) (hS : u 10 1 = nI S) (hS2 : S ≤ 40) (hi : i < S) : ∃ w, f_Qu_removeAt N (nI i) u = some (0, stM w 10 1 (nI (S - 1))) ∧ shD u w 11 (4 * i) (4 * (S - 1)) := by
  unfold f_Qu_removeAt
  rw [show nI i * 4 = nI (4 * i) from by rw [show nI i * 4 = nI (i * 4) from pk_mul i 4, Nat.mul_comm]]
  obtain ⟨w2, g1, g2⟩ := qrem_loop (N := N) (a := 4 * i) (κ := fun u6 => jn (stM u6 10 1 ((u6 10 1) - 1)) (fun u7 => some (0, u7))) hS (by omega) hS2 (4 * (S - 1) - 4 * i) (4 * i) N u (by omega) (by omega) (Nat.le_refl _) ⟨fun _ _ => rfl, fun j => by rw [if_neg (by omega)]⟩
  refine ⟨w2, g1.trans ?_, g2⟩
  dsimp only [jn]
  rw [g2.1 10 (by decide), hS, show nI S - 1 = nI (S - 1) from pk_sub (b := 1) (by omega)]
theorem mrem_loop {N S a : Nat} {κ : Int32 → Int32 → Mem → Rs} {x y : Int32} {u : Mem} (hS : u 15 10 = nI S) (hS2 : S ≤ 40) : ∀ (d i n : Nat) (w : Mem), i + d = 4 * S → d < n → a ≤ i → shD u w 23 a i → ∃ w2, k_Md_deliver_53 N κ n x y (nI i) w = κ x y w2 ∧ shD u w2 23 a (4 * S) := by
  have e4 : ∀ w : Mem, w 15 = u 15 → 4 * w 15 10 = nI (4 * S) := by
    intro w e
    rw [e, hS]
    exact pk_mul 4 S
  intro d
  induction d with
  | zero =>
    intro i n w hi hn ha h
    obtain ⟨n, rfl, hn⟩ := succ_of hn
    refine ⟨w, ?_, by rw [← hi]; exact h⟩
    rw [k_Md_deliver_53, e4 w (h.1 15 (by decide)), if_pos (nI_le (by omega) (by omega))]
  | succ d ih =>
    intro i n w hi hn ha h
    obtain ⟨n, rfl, hn⟩ := succ_of hn
    obtain ⟨w2, g1, g2⟩ := ih (i + 1) n (stM w 23 i (w 23 (i + 4))) (by omega) (by omega) (by omega) (shD_step h ha)
    refine ⟨w2, ?_, g2⟩
    unfold k_Md_deliver_53
    dsimp only [jn]
    rw [e4 w (h.1 15 (by decide)), if_neg (nI_ge (by omega) (by omega)), show nI i + 4 = nI (i + 4) from nI_add i 4, gdN (by omega) (by omega), gdN (by omega) (by omega)]
    simp (disch := omega) only [nI_clamp]
    rw [nI_1]
    exact g1
/-- a message taken away alike -/
theorem sa_take {c t M S X i : Nat} {u z : Mem} (h : SA c t M S X u) (hi : i < S) (z10 : ∀ j, z 10 j = if j = 1 then nI (S - 1) else u 10 j) (z15 : ∀ j, z 15 j = if j = 10 then nI (S - 1) else u 15 j) (z11 : ∀ j, z 11 j = if 4 * i ≤ j ∧ j < 4 * (S - 1) then u 11 (j + 4) else u 11 j) (z23 : ∀ j, z 23 j = if 4 * i ≤ j ∧ j < 4 * (S - 1) then u 23 (j + 4) else u 23 j) (ho : ∀ q, ¬ q = 10 → ¬ q = 11 → ¬ q = 15 → ¬ q = 23 → z q = u q) : SA c t M (S - 1) X z := by
  obtain ⟨⟨⟨c1, c2, c3, c4, c5⟩, e1, e2, e3, e4, e5, e6, e7, e8⟩, hR, hL, hQ, hH, hX⟩ := h
  have z0 := ho 0 (by decide) (by decide) (by decide) (by decide)
  have z1 := ho 1 (by decide) (by decide) (by decide) (by decide)
  have z2 := ho 2 (by decide) (by decide) (by decide) (by decide)
  have z3 := ho 3 (by decide) (by decide) (by decide) (by decide)
  have z4 := ho 4 (by decide) (by decide) (by decide) (by decide)
  have z5 := ho 5 (by decide) (by decide) (by decide) (by decide)
  have z6 := ho 6 (by decide) (by decide) (by decide) (by decide)
  have z7 := ho 7 (by decide) (by decide) (by decide) (by decide)
  have z8 := ho 8 (by decide) (by decide) (by decide) (by decide)
  have z9 := ho 9 (by decide) (by decide) (by decide) (by decide)
  have z12 := ho 12 (by decide) (by decide) (by decide) (by decide)
  have z13 := ho 13 (by decide) (by decide) (by decide) (by decide)
  have z16 := ho 16 (by decide) (by decide) (by decide) (by decide)
  have z17 := ho 17 (by decide) (by decide) (by decide) (by decide)
  have z18 := ho 18 (by decide) (by decide) (by decide) (by decide)
  have z19 := ho 19 (by decide) (by decide) (by decide) (by decide)
  have z20 := ho 20 (by decide) (by decide) (by decide) (by decide)
  have z21 := ho 21 (by decide) (by decide) (by decide) (by decide)
  have z22 := ho 22 (by decide) (by decide) (by decide) (by decide)
  refine ⟨⟨⟨c1, c2, c3, by omega, c5⟩, by rw [z0]; exact e1, by rw [z15, if_neg (by decide)]; exact e2, by rw [z2]; exact e3, by rw [z15, if_neg (by decide)]; exact e4, by rw [z10, if_pos rfl], by rw [z15, if_pos rfl], by rw [z6]; exact e7, by rw [z15, if_neg (by decide), z0]; exact e8⟩, by unfold SR; rw [z1, z19]; exact hR, by unfold SL; rw [z0, z12, z13, z21, z22]; exact hL, ⟨fun j hj => ?_, fun j hj => ?_⟩, by unfold SH dist3; rw [z3, z4, z5, z16, z17, z18]; exact hH, by unfold SX uniq78; rw [z3, z5, z7, z8, z9, z12, z20]; exact hX⟩
  · rw [z11, z23]
    split
    · exact hQ.1 (j + 4) (by omega)
    · exact hQ.1 j (by omega)
  · rw [z11]
    split
    · have := hQ.2 (j + 1) (by omega)
      rw [show 4 * (j + 1) + 2 = 4 * j + 2 + 4 by omega] at this
      exact this
    · exact hQ.2 j (by omega)
theorem raiseC_rd (v : Mem) (s q j : Nat) (x : Int32) : raiseC v s x q j = if q = 5 then (if j = s then (if x ≤ v 5 s then v 5 s else x) else v 5 j) else if q = 13 then (if j = s / 8 then (if x ≤ v 5 s then v 13 (s / 8) else imn (v 13 (s / 8)) (v 5 s)) else v 13 j) else v q j := by
  unfold raiseC
  by_cases h2 : x ≤ v 5 s
  · simp only [if_pos h2]
    by_cases h5 : q = 5
    · subst h5
      by_cases e : j = s
      · subst e; simp
      · simp [e]
    · by_cases h13 : q = 13
      · subst h13
        by_cases e : j = s / 8
        · subst e; simp
        · simp [e]
      · simp [h5, h13]
  · simp only [if_neg h2, stM_rd]
    by_cases h5 : q = 5
    · subst h5; simp
    · by_cases h13 : q = 13
      · subst h13; simp
      · simp [h5, h13]
theorem raiseM_rd (v : Mem) (k o q j : Nat) (x : Int32) : raiseM v k o x q j = if q = 17 then (if j = k then (if x ≤ v 17 k then v 17 k else x) else v 17 j) else if q = 22 then (if j = o then (if x ≤ v 17 k then v 22 o else imn (v 22 o) (v 17 k)) else v 22 j) else v q j := by
  unfold raiseM
  by_cases h2 : x ≤ v 17 k
  · simp only [if_pos h2]
    by_cases h5 : q = 17
    · subst h5
      by_cases e : j = k
      · subst e; simp
      · simp [e]
    · by_cases h13 : q = 22
      · subst h13
        by_cases e : j = o
        · subst e; simp
        · simp [e]
      · simp [h5, h13]
  · simp only [if_neg h2, stM_rd]
    by_cases h5 : q = 17
    · subst h5; simp
    · by_cases h13 : q = 22
      · subst h13; simp
      · simp [h5, h13]
theorem raiseC_oth {v : Mem} {s q : Nat} {x : Int32} (h5 : ¬ q = 5) (h13 : ¬ q = 13) : raiseC v s x q = v q := by
  funext j
  rw [raiseC_rd, if_neg h5, if_neg h13]
theorem g_deliver {c N : Nat} {u : Mem} (h : Sim c u) (hc : c + 1 ≤ 512) (hN : 600 ≤ N) (a : Int32) : Good (c + 1) (f_Sh_deliver N a u) (f_Md_deliver N a) := by
  obtain ⟨t, M, S, X, h⟩ := h
  have hM := h.1.1
  have e4 := h.1.2.2.2.2.1
  have e5 := h.1.2.2.2.2.2.1
  have e6 := h.1.2.2.2.2.2.2.1
  rcases out_or a (n := S) (by omega) with ha | ⟨i, hi, rfl⟩
  · refine good_same (r := 0) ⟨t, M, S, X, h.more hc⟩ ?_ ?_
    · unfold f_Sh_deliver; rw [has_f e5 ha, bd_some, if_pos rfl]
    · unfold f_Md_deliver; rw [e6, within_f (n := S) (sub1 (by omega)) (by omega) ha, bd_some, if_pos rfl]
  obtain ⟨o, ho⟩ : ∃ o, o = u 11 (4 * i + 1) := ⟨_, rfl⟩
  obtain ⟨x, hx⟩ : ∃ x, x = u 11 (4 * i + 2) := ⟨_, rfl⟩
  have ho23 : u 23 (4 * i + 1) = o := by rw [ho]; exact h.2.2.2.1.1 _ (by omega)
  have hx23 : u 23 (4 * i + 2) = x := by rw [hx]; exact h.2.2.2.1.1 _ (by omega)
  have hxt : x.toInt ≤ t := by rw [hx]; exact h.2.2.2.1.2 i hi
  obtain ⟨wq, q1, q2⟩ := qrem_eq (N := N) hN e5 (by omega) hi
  obtain ⟨v, hv⟩ : ∃ v, v = stM wq 10 1 (nI (S - 1)) := ⟨_, rfl⟩
  rw [← hv] at q1
  have vo : ∀ q, ¬ q = 10 → ¬ q = 11 → v q = u q := fun q b1 b2 => by rw [hv, stM_ne b1]; exact q2.1 q b2
  -- the class, as far as the queue goes
  have cls : f_Sh_deliver N (nI i) u = bd (f_Hp_slotOf N o v) (fun y13 u14 => if y13 = (-1) then (some (1, u14)) else (bd (f_Hp_entryAt N y13 u14) (fun y16 u17 => if y16 = (-1) then (some (1, u17)) else (bd (f_Sh_raise N y13 x u17) (fun _ u20 => some (1, u20)))))) := by
    unfold f_Sh_deliver
    rw [has_t e5 (by omega) hi, bd_some, if_neg (by decide), show f_Qu_part N (nI i) 1 u = _ from part_eq (f := 1) (by omega) (by omega), bd_some, show f_Qu_part N (nI i) 2 u = _ from part_eq (f := 2) (by omega) (by omega), bd_some, q1, bd_some, ← ho, ← hx]
  -- the reference, from a memory that agrees with u where the reference looks
  have mdl : ∀ w : Mem, (∀ q, 15 ≤ q → w q = u q) → ∃ m, (∀ q, ¬ q = 15 → ¬ q = 23 → m q = w q) ∧ (∀ j, m 15 j = if j = 10 then nI (S - 1) else u 15 j) ∧ (∀ j, m 23 j = if 4 * i ≤ j ∧ j < 4 * (S - 1) then u 23 (j + 4) else u 23 j) ∧ f_Md_deliver N (nI i) w = bd (f_Md_there N o m) (fun y16 u17 => if y16 = 0 then (some (1, u17)) else (gd (inB o 513) (if (u17 17 o.toNatClampNeg) < 0 then (some (1, u17)) else (bd (f_Md_raise N o x u17) (fun _ u21 => some (1, u21)))))) := by
    intro w hw
    have w15 := hw 15 (by decide)
    have w23 := hw 23 (by decide)
    obtain ⟨m, m1, m2⟩ := mrem_loop (N := N) (S := S - 1) (a := 4 * i) (x := o) (y := x) (κ := fun x13 x14 u15 => bd (f_Md_there N x13 u15) (fun y16 u17 => if y16 = 0 then (some (1, u17)) else (gd (inB x13 513) (if (u17 17 x13.toNatClampNeg) < 0 then (some (1, u17)) else (bd (f_Md_raise N x13 x14 u17) (fun _ u21 => some (1, u21))))))) (u := stM w 15 10 (nI (S - 1))) (by rw [stM_rs, if_pos rfl]) (by omega) (4 * (S - 1) - 4 * i) (4 * i) N (stM w 15 10 (nI (S - 1))) (by omega) (by omega) (Nat.le_refl _) ⟨fun _ _ => rfl, fun j => by rw [if_neg (by omega)]⟩
    refine ⟨m, fun q b1 b2 => by rw [m2.1 q b2, stM_ne b1], fun j => by rw [m2.1 15 (by decide), stM_rs, w15], fun j => by rw [m2.2, stM_ne (by decide), w23], ?_⟩
    rw [← m1]
    unfold f_Md_deliver
    dsimp only [jn]
    rw [w15, e6, within_t (n := S) (sub1 (by omega)) hi (by omega), bd_some, if_neg (by decide), show 4 * nI i + 1 = nI (4 * i + 1) from four_eq (r := 1), show 4 * nI i + 2 = nI (4 * i + 2) from four_eq (r := 2), gdN (by omega) (by omega), gdN (by omega) (by omega)]
    simp (disch := omega) only [nI_clamp]
    rw [w23, ho23, hx23, w15, e6, show nI S - 1 = nI (S - 1) from pk_sub (b := 1) (by omega), show 4 * nI i = nI (4 * i) from pk_mul 4 i]
  -- the relation with the message gone
  have take : ∀ w m : Mem, (∀ q, ¬ q = 15 → ¬ q = 23 → m q = w q) → (∀ j, m 15 j = if j = 10 then nI (S - 1) else u 15 j) → (∀ j, m 23 j = if 4 * i ≤ j ∧ j < 4 * (S - 1) then u 23 (j + 4) else u 23 j) → w = v → SA (c + 1) t M (S - 1) X m := by
    intro w m m1 m2 m3 ew
    subst ew
    refine sa_take (i := i) (h.more hc) hi (fun j => ?_) m2 (fun j => ?_) m3 (fun q b1 b2 b3 b4 => ?_)
    · rw [m1 10 (by decide) (by decide), hv, stM_rs, q2.1 10 (by decide)]
    · rw [m1 11 (by decide) (by decide), hv, stM_ne (by decide)]; exact q2.2 j
    · rw [m1 q b3 b4]; exact vo q b1 b2
  have v3 := vo 3 (by decide) (by decide)
  have v5 := vo 5 (by decide) (by decide)
  rcases slot_num h o with ⟨g1, g2⟩ | ⟨s, k, s1, k1, k2, rfl, s2⟩
  · obtain ⟨m, m1, m2, m3, m4⟩ := mdl v (fun q hq => vo q (by omega) (by omega))
    refine ⟨1, v, m, ?_, ?_, t, M, S - 1, X, take v m m1 m2 m3 rfl⟩
    · rw [cls, slotOf_no hN (by rw [v3]; exact g1), bd_some, if_pos rfl]
    · rw [m4, there_no (M := M) (by rw [m2, if_neg (by decide)]; exact e4) (by omega) (by rw [m1 16 (by decide) (by decide), vo 16 (by decide) (by decide)]; exact g2), bd_some, if_pos rfl]
  · obtain ⟨q16, q17, -, -⟩ := h.2.2.2.2.1.2.2.1 s k s1 k1 k2 s2
    have h6 := h.2.2.2.2.1.2.2.2.2.2.1 s s1
    have hsl : f_Hp_slotOf N (nI k) v = some (nI s, v) := slotOf_some hN (by unfold dist3; rw [v3]; exact h.2.2.2.2.1.1) s1 (by rw [v3]; exact s2) (by omega) (by omega)
    by_cases hen : u 5 s = -1
    · obtain ⟨m, m1, m2, m3, m4⟩ := mdl v (fun q hq => vo q (by omega) (by omega))
      have m16 := (m1 16 (by decide) (by decide)).trans (vo 16 (by decide) (by decide))
      have m17 := (m1 17 (by decide) (by decide)).trans (vo 17 (by decide) (by decide))
      refine ⟨1, v, m, ?_, ?_, t, M, S - 1, X, take v m m1 m2 m3 rfl⟩
      · rw [cls, hsl, bd_some, if_neg (m1_ne (by omega)), entryAt_eq s1, bd_some, v5, if_pos hen]
      · rw [m4, there_t (M := M) (by rw [m2, if_neg (by decide)]; exact e4) (by omega) k1 k2 (by rw [m16, q16]; exact nI_pos (by omega)), bd_some, if_neg (by decide), gdN (by omega) (by omega)]
        simp (disch := omega) only [nI_clamp]
        rw [m17, q17, if_pos (by rw [hen]; exact m1_lt)]
    · have hw : ∀ q, 15 ≤ q → raiseC v s x q = u q := fun q hq => by rw [raiseC_oth (by omega) (by omega)]; exact vo q (by omega) (by omega)
      obtain ⟨m, m1, m2, m3, m4⟩ := mdl (raiseC v s x) hw
      have mo : ∀ q, 15 ≤ q → ¬ q = 15 → ¬ q = 23 → m q = u q := fun q b1 b2 b3 => (m1 q b2 b3).trans (hw q b1)
      have m16 := mo 16 (by decide) (by decide) (by decide)
      have m17 := mo 17 (by decide) (by decide) (by decide)
      have m22 := mo 22 (by decide) (by decide) (by decide)
      have hpos := h6.elim (fun z => absurd z hen) id
      have l22 := (h.2.2.1 (s / 8) (by omega)).2.1
      refine ⟨1, raiseC v s x, raiseM m k (s / 8) x, ?_, ?_, t, M, S - 1, X, ?_⟩
      · rw [cls, hsl, bd_some, if_neg (m1_ne (by omega)), entryAt_eq s1, bd_some, v5, if_neg hen, raise_eq s1, bd_some]
      · rw [m4, there_t (M := M) (by rw [m2, if_neg (by decide)]; exact e4) (by omega) k1 k2 (by rw [m16, q16]; exact nI_pos (by omega)), bd_some, if_neg (by decide), gdN (by omega) (by omega)]
        simp (disch := omega) only [nI_clamp]
        rw [m17, q17, if_neg (by rw [ti_lt, show (0 : Int32).toInt = 0 by decide]; omega), raiseM_eq (o := s / 8) (by omega) (by omega) (by rw [m16]; exact q16), bd_some]
      · -- first the message, then the entry
        obtain ⟨m0, hm0⟩ : ∃ m0 : Mem, ∀ q, m0 q = if q < 15 then v q else m q := ⟨fun q => if q < 15 then v q else m q, fun _ => rfl⟩
        have hs0 : SA (c + 1) t M (S - 1) X m0 := by
          refine take v m0 (fun q b1 b2 => ?_) (fun j => ?_) (fun j => ?_) rfl
          · rw [hm0]
            split
            · rfl
            · rw [m1 q b1 b2, raiseC_oth (by omega) (by omega)]
          · rw [hm0, if_neg (by decide)]; exact m2 j
          · rw [hm0, if_neg (by decide)]; exact m3 j
        have a3 : m0 3 = u 3 := by rw [hm0, if_pos (by decide)]; exact v3
        have a5 : m0 5 = u 5 := by rw [hm0, if_pos (by decide)]; exact v5
        have a13 : m0 13 = u 13 := by rw [hm0, if_pos (by decide)]; exact vo 13 (by decide) (by decide)
        have a17 : m0 17 = u 17 := by rw [hm0, if_neg (by decide)]; exact m17
        have a22 : m0 22 = u 22 := by rw [hm0, if_neg (by decide)]; exact m22
        have v13 := vo 13 (by decide) (by decide)
        refine sa_entry (s := s) (k := k) (E := if x ≤ u 5 s then u 5 s else x) (L := if x ≤ u 5 s then u 13 (s / 8) else imn (u 13 (s / 8)) (u 5 s)) hs0 s1 k1 k2 (by rw [a3]; exact s2) ?_ ?_ (fun j => ?_) (fun j => ?_) (fun j => ?_) (fun j => ?_) (fun q b5 b13 b17 b22 => ?_)
        · by_cases g : x ≤ u 5 s
          · rw [if_pos g]; exact hpos
          · rw [if_neg g]
            rw [ti_le] at g
            omega
        · rw [a5]
          by_cases g : x ≤ u 5 s
          · rw [if_pos g]; exact Int.le_refl _
          · rw [if_neg g]
            rw [ti_le] at g
            omega
        · rw [raiseM_oth (by decide) (by decide), m1 5 (by decide) (by decide), raiseC_rd, if_pos rfl, v5, a5]
        · rw [raiseM_rd, if_pos rfl, m17, a17, q17]
        · rw [raiseM_oth (by decide) (by decide), m1 13 (by decide) (by decide), raiseC_rd, if_neg (by decide), if_pos rfl, v5, v13, a13]
        · rw [raiseM_rd, if_neg (by decide), if_pos rfl, m22, m17, a22, q17, l22]
        · rw [raiseM_oth b17 b22, hm0]
          by_cases hq : q < 15
          · rw [if_pos hq, m1 q (by omega) (by omega), raiseC_oth b5 b13]
          · rw [if_neg hq]
