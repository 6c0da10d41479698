/-! Pure: the relation behind collect. -/
theorem stB_1 {b : Nat} {V : Int32 → Int32} (r : Int32 × Int32 × Int32) : (stB b V r).1 = r.1 ∧ (stB b V r).2.1 = r.2.1 ∧ (stB b V r).2.2 = if r.1 = nI b ∧ ¬ V r.2.1 ≤ r.2.2 then V r.2.1 else r.2.2 := by
  unfold stB
  split <;> exact ⟨rfl, rfl, rfl⟩
theorem keepB_iff {b : Nat} {V : Int32 → Int32} {r : Int32 × Int32 × Int32} : keepB b V r = true ↔ ¬ (r.1 = nI b ∧ V r.2.1 = -1) := by
  unfold keepB
  by_cases h1 : r.1 = nI b <;> by_cases h2 : V r.2.1 = -1 <;> simp [h1, h2]
/-- rows behind collect, row by row -/
theorem rows_after {c t M S X b : Nat} {u z : Mem} {V : Int32 → Int32} (h : SA c t M S X u) (hR : Rw z (((rowsL u X).filter (keepB b V)).map (stB b V))) :
    (∀ i, i < (((rowsL u X).filter (keepB b V)).map (stB b V)).length → ∃ g, g < X ∧ ¬ (u 7 g = nI b ∧ V (u 8 g) = -1) ∧ z 7 i = u 7 g ∧ z 8 i = u 8 g ∧ z 9 i = if u 7 g = nI b ∧ ¬ V (u 8 g) ≤ u 9 g then V (u 8 g) else u 9 g) ∧
    (∀ g, g < X → ¬ (u 7 g = nI b ∧ V (u 8 g) = -1) → ∃ i, i < (((rowsL u X).filter (keepB b V)).map (stB b V)).length ∧ z 7 i = u 7 g ∧ z 8 i = u 8 g) ∧
    (∀ i j, i < j → j < (((rowsL u X).filter (keepB b V)).map (stB b V)).length → (z 8 i).toInt ≤ (z 8 j).toInt ∧ ¬ (z 7 i = z 7 j ∧ z 8 i = z 8 j)) := by
  refine ⟨fun i hi => ?_, fun g hg hk => ?_, fun i j hij hj => ?_⟩
  · obtain ⟨a7, a8, a9⟩ := hR.2.2 i _ (List.getElem?_eq_getElem hi)
    have hmem := List.getElem_mem hi
    rw [List.mem_map] at hmem
    obtain ⟨r, r1, r2⟩ := hmem
    rw [List.mem_filter] at r1
    obtain ⟨g, g1, rfl⟩ := rowsL_mem.mp r1.1
    have hk := keepB_iff.mp r1.2
    obtain ⟨s1, s2, s3⟩ := stB_1 (b := b) (V := V) (u 7 g, u 8 g, u 9 g)
    refine ⟨g, g1, hk, ?_, ?_, ?_⟩
    · rw [a7, ← r2, s1]
    · rw [a8, ← r2, s2]
    · rw [a9, ← r2, s3]
  · have hmem : stB b V (u 7 g, u 8 g, u 9 g) ∈ ((rowsL u X).filter (keepB b V)).map (stB b V) := List.mem_map.mpr ⟨_, List.mem_filter.mpr ⟨rowsL_mem.mpr ⟨g, hg, rfl⟩, keepB_iff.mpr hk⟩, rfl⟩
    obtain ⟨i, hi, e⟩ := List.getElem_of_mem hmem
    obtain ⟨a7, a8, a9⟩ := hR.2.2 i _ (List.getElem?_eq_getElem hi)
    obtain ⟨s1, s2, s3⟩ := stB_1 (b := b) (V := V) (u 7 g, u 8 g, u 9 g)
    exact ⟨i, hi, by rw [a7, e, s1], by rw [a8, e, s2]⟩
  · have hp : (((rowsL u X).filter (keepB b V)).map (stB b V)).Pairwise (fun r r' => r.2.1.toInt ≤ r'.2.1.toInt ∧ ¬ (r.1 = r'.1 ∧ r.2.1 = r'.2.1)) := by
      refine List.Pairwise.map (R := fun r r' => r.2.1.toInt ≤ r'.2.1.toInt ∧ ¬ (r.1 = r'.1 ∧ r.2.1 = r'.2.1)) (stB b V) (fun r r' hr => ?_) ((rowsL_pw h).filter _)
      obtain ⟨s1, s2, -⟩ := stB_1 (b := b) (V := V) r
      obtain ⟨s1', s2', -⟩ := stB_1 (b := b) (V := V) r'
      rw [s1, s2, s1', s2']
      exact hr
    have hi : i < (((rowsL u X).filter (keepB b V)).map (stB b V)).length := by omega
    obtain ⟨a7, a8, a9⟩ := hR.2.2 i _ (List.getElem?_eq_getElem hi)
    obtain ⟨c7, c8, c9⟩ := hR.2.2 j _ (List.getElem?_eq_getElem hj)
    rw [a7, a8, c7, c8]
    exact List.pairwise_iff_getElem.mp hp i j hi hj hij
/-- nineteen holders on a node -/
theorem holder {w1 u : Mem} {b : Nat} {o v : Int32} (h1 : w1 1 = u 1) (h4 : w1 4 = u 4) (hg : gvC w1 b o v) (hv : ¬ v = -1) : ∃ n, n < 19 ∧ (if n < 3 then u 1 (3 * b + n) else u 4 (16 * b + (n - 3))) = o := by
  rcases hg with ⟨a, -⟩ | ⟨-, -, -, a⟩
  · unfold hrt at a
    rw [h1] at a
    rcases a with a | a | a
    · exact ⟨0, by omega, by rw [if_pos (by omega)]; exact a⟩
    · exact ⟨1, by omega, by rw [if_pos (by omega)]; exact a⟩
    · exact ⟨2, by omega, by rw [if_pos (by omega)]; exact a⟩
  · rcases a with a | ⟨j, j1, j2, j3, -⟩
    · exact absurd a hv
    · unfold hC at j3
      rw [h4] at j3
      rcases j3 with j3 | j3
      · refine ⟨2 * j - 16 * b + 3, by omega, ?_⟩
        rw [if_neg (by omega), show 16 * b + (2 * j - 16 * b + 3 - 3) = 2 * j by omega]
        exact j3
      · refine ⟨2 * j + 1 - 16 * b + 3, by omega, ?_⟩
        rw [if_neg (by omega), show 16 * b + (2 * j + 1 - 16 * b + 3 - 3) = 2 * j + 1 by omega]
        exact j3
theorem sa_collect_x {c t M S X b : Nat} {u w1 z : Mem} {V : Int32 → Int32} (h : SA c t M S X u) (hb : b < 3) (hc : c + 1 ≤ 512) (hV : ∀ o, gvC w1 b o (V o)) (hVok : ∀ o, V o = -1 ∨ (0 ≤ (V o).toInt ∧ (V o).toInt ≤ ((t + 1 : Nat) : Int))) (w1' : w1 1 = u 1) (w4 : w1 4 = u 4)
    (hR : Rw z (((rowsL u X).filter (keepB b V)).map (stB b V))) (z12 : ∀ j, z 12 j = if j = b then nI (t + 1) else u 12 j) (z20 : ∀ k, 1 ≤ k → k ≤ M → z 20 (3 * k + b) = nwX (u 20 (3 * k + b)) (V (nI k))) (z20' : ∀ j, (∀ k, 1 ≤ k → k ≤ M → ¬ j = 3 * k + b) → z 20 j = u 20 j)
    (hkeep : ∀ s k, s < 24 → 1 ≤ k → k ≤ M → u 3 s = nI k → 0 ≤ (u 5 s).toInt → z 3 s = nI k ∧ z 5 s = u 5 s) : SX M (t + 1) (((rowsL u X).filter (keepB b V)).map (stB b V)).length z := by
  have hM := h.1.1
  obtain ⟨x1, x2, x3, x4, x5⟩ := id h.2.2.2.2.2
  obtain ⟨r1, r2, r3⟩ := rows_after h hR
  have et : (nI (t + 1)).toInt = ((t + 1 : Nat) : Int) := nI_toInt (by omega)
  -- a row's stamp behind it
  have stamp : ∀ i g, (z 9 i = if u 7 g = nI b ∧ ¬ V (u 8 g) ≤ u 9 g then V (u 8 g) else u 9 g) → g < X → 1 ≤ (z 9 i).toInt ∧ (z 9 i).toInt ≤ ((t + 1 : Nat) : Int) := by
    intro i g e hg
    obtain ⟨b', k, q1, q2, q3, q4, q5, q6, q7, q8, -⟩ := x1 g hg
    rw [e]
    split
    · rename_i g2
      have g3 := g2.2
      rw [ti_le] at g3
      rcases hVok (u 8 g) with v | v
      · rw [v, m1_ti] at g3; omega
      · omega
    · omega
  refine ⟨fun i hi => ?_, fun i j hij hj => (r3 i j hij hj).1, fun i j hi hj e7 e8 => ?_, fun b' k q1 q2 => ?_, fun b' q1 => ?_⟩
  · obtain ⟨g, g1, g2, g7, g8, g9⟩ := r1 i hi
    obtain ⟨b', k, q1, q2, q3, q4, q5, q6, q7, q8, q9⟩ := x1 g g1
    obtain ⟨s1, s2⟩ := stamp i g g9 g1
    refine ⟨b', k, q1, q2, q3, g7.trans q4, g8.trans q5, ?_, s1, s2, fun hf => ?_⟩
    · by_cases eb : b' = b
      · subst eb
        rw [z20 k q2 q3, q6, g9, q5]
        have hne : ¬ V (nI k) = -1 := fun e => g2 ⟨q4, by rw [q5]; exact e⟩
        have h0 : 0 ≤ V (nI k) := (hVok (nI k)).elim (fun e => absurd e hne) (fun e => ti0'.mpr e.1)
        unfold nwX
        rw [if_neg (by rw [ti0]; omega), if_pos h0]
        by_cases hle : V (nI k) ≤ u 9 g
        · rw [if_pos hle, if_neg (fun e => e.2 hle)]
        · rw [if_neg hle, if_pos ⟨q4, hle⟩]
      · rw [z20' _ (fun k' _ _ e => eb (by omega)), q6, g9, if_neg (fun e => eb (nI_inj (q4.symm.trans e.1) (by omega) (by omega)))]
    · by_cases eb : b' = b
      · rw [z12, if_pos eb, et] at hf
        omega
      · have e9 : z 9 i = u 9 g := by rw [g9, if_neg (fun e => eb (nI_inj (q4.symm.trans e.1) (by omega) (by omega)))]
        rw [z12, if_neg eb, e9] at hf
        obtain ⟨s, t1, t2, t3, t4⟩ := q9 hf
        obtain ⟨k1, k2⟩ := hkeep s k t1 q2 q3 t2 (by omega)
        exact ⟨s, t1, k1, t3, by rw [e9, k2]; exact t4⟩
  · rcases Nat.lt_trichotomy i j with e | e | e
    · exact absurd ⟨e7, e8⟩ (r3 i j e hj).2
    · exact e
    · exact absurd ⟨e7.symm, e8.symm⟩ (r3 j i e hi).2
  · rcases x4 b' k q1 q2 with ⟨g, g1, g7, g8⟩ | e
    · by_cases hk : u 7 g = nI b ∧ V (u 8 g) = -1
      · right
        obtain ⟨b2, k2, p1, p2, p3, p4, p5, p6, p7, p8, -⟩ := x1 g g1
        have eb : b' = b := nI_inj (g7.symm.trans hk.1) (by omega) (by omega)
        have ek : k2 = k := nI_inj (p5.symm.trans g8) (by omega) (by omega)
        have eb2 : b2 = b' := nI_inj (p4.symm.trans g7) (by omega) (by omega)
        subst eb; subst ek; subst eb2
        rw [z20 k2 p2 p3, p6]
        unfold nwX
        rw [← p5, hk.2, if_neg (by rw [ti0]; omega), if_neg (by decide)]
        decide
      · left
        obtain ⟨i, i1, i2, i3⟩ := r2 g g1 hk
        exact ⟨i, i1, i2.trans g7, i3.trans g8⟩
    · right
      by_cases hin : b' = b ∧ 1 ≤ k ∧ k ≤ M
      · rw [hin.1] at e ⊢
        rw [z20 k hin.2.1 hin.2.2]
        unfold nwX
        rw [if_pos (ti0.mpr e)]
        exact e
      · rw [z20' _ (fun k' p1 p2 e2 => hin ⟨by omega, by omega, by omega⟩)]
        exact e
  · by_cases eb : b' = b
    · subst eb
      have hex : ∀ i, ∃ n, (i < (((rowsL u X).filter (keepB b' V)).map (stB b' V)).length → z 7 i = nI b' → n < 19 ∧ (if n < 3 then u 1 (3 * b' + n) else u 4 (16 * b' + (n - 3))) = z 8 i) := by
        intro i
        by_cases q : i < (((rowsL u X).filter (keepB b' V)).map (stB b' V)).length ∧ z 7 i = nI b'
        · obtain ⟨g, g1, g2, g7, g8, g9⟩ := r1 i q.1
          have hne : ¬ V (u 8 g) = -1 := fun e => g2 ⟨g7.symm.trans q.2, e⟩
          obtain ⟨n, n1, n2⟩ := holder w1' w4 (hV (u 8 g)) hne
          exact ⟨n, fun _ _ => ⟨n1, n2.trans g8.symm⟩⟩
        · exact ⟨0, fun a1 a2 => absurd ⟨a1, a2⟩ q⟩
      obtain ⟨f, hf⟩ := Classical.axiomOfChoice hex
      have := cnF_inj (P := fun i => z 7 i = nI b' ∧ (z 9 i).toInt ≤ (z 12 b').toInt) f 0 19 (((rowsL u X).filter (keepB b' V)).map (stB b' V)).length 0 (fun _ => True) (fun i _ a2 a3 => by
        obtain ⟨n1, -⟩ := hf i (by omega) a3.1
        exact ⟨Nat.zero_le _, by omega, trivial⟩) (fun i j _ a2 _ a4 p1 p2 e => by
        obtain ⟨-, n2⟩ := hf i (by omega) p1.1
        obtain ⟨-, n3⟩ := hf j (by omega) p2.1
        rw [e] at n2
        have e8 : z 8 i = z 8 j := n2.symm.trans n3
        rcases Nat.lt_trichotomy i j with o | o | o
        · exact absurd ⟨p1.1.trans p2.1.symm, e8⟩ (r3 i j o (by omega)).2
        · exact o
        · exact absurd ⟨p2.1.trans p1.1.symm, e8.symm⟩ (r3 j i o (by omega)).2)
      rw [cnF_all (P := fun _ => True) 19 0 (fun _ _ _ => trivial)] at this
      exact this
    · have hex : ∀ i, ∃ g, (i < (((rowsL u X).filter (keepB b V)).map (stB b V)).length → g < X ∧ z 7 i = u 7 g ∧ z 8 i = u 8 g ∧ z 9 i = if u 7 g = nI b ∧ ¬ V (u 8 g) ≤ u 9 g then V (u 8 g) else u 9 g) := by
        intro i
        by_cases q : i < (((rowsL u X).filter (keepB b V)).map (stB b V)).length
        · obtain ⟨g, g1, g2, g7, g8, g9⟩ := r1 i q
          exact ⟨g, fun _ => ⟨g1, g7, g8, g9⟩⟩
        · exact ⟨0, fun a1 => absurd a1 q⟩
      obtain ⟨f, hf⟩ := Classical.axiomOfChoice hex
      refine Nat.le_trans (cnF_inj f 0 X (((rowsL u X).filter (keepB b V)).map (stB b V)).length 0 _ (fun i _ a2 a3 => ?_) (fun i j _ a2 _ a4 p1 p2 e => ?_)) (x5 b' q1)
      · obtain ⟨g1, g7, g8, g9⟩ := hf i (by omega)
        have n7 : u 7 (f i) = nI b' := g7.symm.trans a3.1
        have e9 : z 9 i = u 9 (f i) := by rw [g9, if_neg (fun e => eb (nI_inj (n7.symm.trans e.1) (by omega) (by omega)))]
        refine ⟨Nat.zero_le _, by omega, n7, ?_⟩
        have := a3.2
        rw [e9, z12, if_neg eb] at this
        exact this
      · obtain ⟨g1, g7, g8, g9⟩ := hf i (by omega)
        obtain ⟨k1, k7, k8, k9⟩ := hf j (by omega)
        rw [e, ← k7] at g7
        rw [e, ← k8] at g8
        rcases Nat.lt_trichotomy i j with o | o | o
        · exact absurd ⟨g7, g8⟩ (r3 i j o (by omega)).2
        · exact o
        · exact absurd ⟨g7.symm, g8.symm⟩ (r3 j i o (by omega)).2
