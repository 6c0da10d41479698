/-! Pure: collect. -/
theorem sa_collect_h {c t M S X b : Nat} {u z : Mem} {B R : Nat → Int32} (h : SA c t M S X u) (hb : b < 3) (hc : c + 1 ≤ 512) (hz : ∀ j, 8 * b ≤ j → j < 8 * b + 8 → u 3 j = 0 → R j = -1) (hB : ∀ j k, 8 * b ≤ j → j < 8 * b + 8 → 1 ≤ k → k ≤ M → u 3 j = nI k → R j = B k) (hBok : ∀ k, 1 ≤ k → k ≤ M → B k = -1 ∨ (0 ≤ (B k).toInt ∧ (B k).toInt ≤ ((t + 1 : Nat) : Int)))
    (z3 : ∀ j, z 3 j = if 8 * b ≤ j ∧ j < 8 * b + 8 ∧ (¬ u 3 j = 0 ∧ R j = -1) then 0 else u 3 j) (z5 : ∀ j, z 5 j = if 8 * b ≤ j ∧ j < 8 * b + 8 ∧ (¬ u 3 j = 0 ∧ R j = -1) then -1 else u 5 j) (z4 : ∀ j, z 4 j = if 8 * b ≤ j / 2 ∧ j / 2 < 8 * b + 8 ∧ (¬ u 3 (j / 2) = 0 ∧ R (j / 2) = -1) then 0 else u 4 j)
    (z16 : ∀ k, 1 ≤ k → k ≤ M → z 16 k = if u 16 k = nI b ∧ ¬ 0 ≤ B k then -1 else u 16 k) (z17 : z 17 = u 17) (z18 : z 18 = u 18) : SH M (t + 1) z := by
  obtain ⟨⟨⟨c1, c2, c3, c4, c5⟩, e1, e2, e3, e4, e5, e6, e7, e8⟩, hR, hL, hQ, ⟨d3, h1, h2, h3, h4, h5, h6⟩, hX⟩ := h
  have live : ∀ s k, s < 24 → 1 ≤ k → k ≤ M → z 3 s = nI k → u 3 s = nI k ∧ ¬ (8 * b ≤ s ∧ s < 8 * b + 8 ∧ (¬ u 3 s = 0 ∧ R s = -1)) := by
    intro s k q1 q2 q3 q4
    rw [z3] at q4
    by_cases g : 8 * b ≤ s ∧ s < 8 * b + 8 ∧ (¬ u 3 s = 0 ∧ R s = -1)
    · rw [if_pos g] at q4
      exact absurd q4.symm (nI_ne0 (by omega) (by omega))
    · rw [if_neg g] at q4
      exact ⟨q4, g⟩
  refine ⟨?_, fun s q1 => ?_, fun s k q1 q2 q3 q4 => ?_, fun k q1 q2 => ?_, fun s q1 q2 => ?_, fun s q1 => ?_, by rw [z18]; exact h6⟩
  · intro s s' q1 q2 q3 q4
    rw [z3] at q4
    rw [z3, z3] at q3
    by_cases g : 8 * b ≤ s ∧ s < 8 * b + 8 ∧ (¬ u 3 s = 0 ∧ R s = -1)
    · rw [if_pos g] at q4
      exact absurd rfl q4
    · rw [if_neg g] at q3 q4
      by_cases g' : 8 * b ≤ s' ∧ s' < 8 * b + 8 ∧ (¬ u 3 s' = 0 ∧ R s' = -1)
      · rw [if_pos g'] at q3
        exact absurd q3 q4
      · rw [if_neg g'] at q3
        exact d3 s s' q1 q2 q3 q4
  · rw [z3]
    split
    · exact ⟨0, Nat.zero_le _, rfl⟩
    · exact h1 s q1
  · obtain ⟨g1, g2⟩ := live s k q1 q2 q3 q4
    obtain ⟨p1, p2, p3, p4⟩ := h2 s k q1 q2 q3 g1
    have hno : ¬ (u 16 k = nI b ∧ ¬ 0 ≤ B k) := by
      intro e
      have eb : s / 8 = b := nI_inj (p1.symm.trans e.1) (by omega) (by omega)
      have hm : B k = -1 := (hBok k q2 q3).elim id (fun y => absurd (ti0'.mpr y.1) e.2)
      exact g2 ⟨by omega, by omega, by rw [g1]; exact nI_ne0 (by omega) (by omega), by rw [hB s k (by omega) (by omega) q2 q3 g1]; exact hm⟩
    rw [z16 k q2 q3, if_neg hno, z17, z5, if_neg g2, z18, z4, z4]
    rw [show 2 * s / 2 = s by omega, show (2 * s + 1) / 2 = s by omega, if_neg g2, if_neg g2]
    exact ⟨p1, p2, p3, p4⟩
  · rw [z16 k q1 q2]
    rcases h3 k q1 q2 with e | ⟨s, s1, s2⟩
    · left
      split
      · rfl
      · exact e
    · by_cases g : 8 * b ≤ s ∧ s < 8 * b + 8 ∧ (¬ u 3 s = 0 ∧ R s = -1)
      · left
        have p1 := (h2 s k s1 q1 q2 s2).1
        have hm := hB s k g.1 g.2.1 q1 q2 s2
        rw [g.2.2.2] at hm
        rw [if_pos ⟨by rw [p1]; congr 1; omega, by rw [← hm]; decide⟩]
      · right
        exact ⟨s, s1, by rw [z3, if_neg g]; exact s2⟩
  · rw [z3] at q2
    rw [z5, z4, z4, show 2 * s / 2 = s by omega, show (2 * s + 1) / 2 = s by omega]
    by_cases g : 8 * b ≤ s ∧ s < 8 * b + 8 ∧ (¬ u 3 s = 0 ∧ R s = -1)
    · rw [if_pos g, if_pos g, if_pos g]
      exact ⟨rfl, rfl, rfl⟩
    · rw [if_neg g] at q2
      rw [if_neg g, if_neg g, if_neg g]
      exact h4 s q1 q2
  · rw [z5]
    split
    · exact Or.inl rfl
    · rcases h5 s q1 with e | e
      · exact Or.inl e
      · exact Or.inr ⟨e.1, by omega⟩
/-- the messages of a memory, as a list -/
def msgsL (u : Mem) (S : Nat) : List (Int32 × Int32 × Int32 × Int32) := (List.range S).map (fun i => (u 11 (4 * i), u 11 (4 * i + 1), u 11 (4 * i + 2), u 11 (4 * i + 3)))
theorem msgsL_at {u : Mem} {S i : Nat} {r : Int32 × Int32 × Int32 × Int32} (h : (msgsL u S)[i]? = some r) : i < S ∧ r = (u 11 (4 * i), u 11 (4 * i + 1), u 11 (4 * i + 2), u 11 (4 * i + 3)) := by
  unfold msgsL at h
  rw [List.getElem?_map] at h
  cases hi : (List.range S)[i]? with
  | none => rw [hi] at h; cases h
  | some j =>
    rw [hi] at h
    rw [List.getElem?_eq_some_iff] at hi
    obtain ⟨q1, q2⟩ := hi
    rw [List.getElem_range] at q2
    subst q2
    cases h
    rw [List.length_range] at q1
    exact ⟨q1, rfl⟩
theorem msgsL_len {u : Mem} {S : Nat} : (msgsL u S).length = S := by
  unfold msgsL
  rw [List.length_map, List.length_range]
theorem sq_of {t : Nat} {z : Mem} {Q : List (Int32 × Int32 × Int32 × Int32)} (h11 : Qw z 11 Q) (h23 : Qw z 23 Q) (ht : ∀ m ∈ Q, m.2.2.1.toInt ≤ (t : Int)) : SQ t Q.length z := by
  refine ⟨fun i hi => ?_, fun i hi => ?_⟩
  · have hl : i / 4 < Q.length := by omega
    obtain ⟨a0, a1, a2, a3⟩ := h11 (i / 4) _ (List.getElem?_eq_getElem hl)
    obtain ⟨c0, c1, c2, c3⟩ := h23 (i / 4) _ (List.getElem?_eq_getElem hl)
    rcases (show i = 4 * (i / 4) ∨ i = 4 * (i / 4) + 1 ∨ i = 4 * (i / 4) + 2 ∨ i = 4 * (i / 4) + 3 by omega) with e | e | e | e
    · rw [e, a0, c0]
    · rw [e, a1, c1]
    · rw [e, a2, c2]
    · rw [e, a3, c3]
  · obtain ⟨a0, a1, a2, a3⟩ := h11 i _ (List.getElem?_eq_getElem hi)
    rw [a2]
    exact ht _ (List.getElem_mem hi)
theorem gv_ok {w1 : Mem} {b t : Nat} {o v : Int32} (ht : t ≤ 512) (w0 : w1 0 7 = nI t) (hok : ∀ j, 8 * b ≤ j → j < 8 * b + 8 → w1 14 j = -1 ∨ (0 ≤ (w1 14 j).toInt ∧ (w1 14 j).toInt ≤ (t : Int))) (h : gvC w1 b o v) : v = -1 ∨ (0 ≤ v.toInt ∧ v.toInt ≤ (t : Int)) := by
  rcases h with ⟨-, e⟩ | ⟨-, -, -, a⟩
  · right
    rw [e, w0, nI_toInt (by omega)]
    omega
  · rcases a with a | ⟨j, j1, j2, -, j4⟩
    · exact Or.inl a
    · rw [j4]; exact hok j j1 j2
theorem cnt_free {c t M S X b : Nat} {u : Mem} {B R : Nat → Int32} (h : SA c t M S X u) (hb : b < 3) (hB : ∀ j k, 8 * b ≤ j → j < 8 * b + 8 → 1 ≤ k → k ≤ M → u 3 j = nI k → R j = B k) (hBok : ∀ k, 1 ≤ k → k ≤ M → B k = -1 ∨ (0 ≤ (B k).toInt ∧ (B k).toInt ≤ ((t + 1 : Nat) : Int))) : cnF (fun s => ¬ u 3 s = 0 ∧ R s = -1) (8 * b) 8 = cnF (fun k => u 16 k = nI b ∧ ¬ 0 ≤ B k) 1 M := by
  obtain ⟨⟨⟨c1, c2, c3, c4, c5⟩, e1, e2, e3, e4, e5, e6, e7, e8⟩, -, -, -, ⟨d3, h1, h2, h3, h4, h5, h6⟩, -⟩ := h
  apply Nat.le_antisymm
  · refine cnF_inj (fun s => (u 3 s).toNatClampNeg) 1 M 8 (8 * b) _ (fun s a1 a2 a3 => ?_) (fun s s' a1 a2 a3 a4 p1 p2 e => ?_)
    · obtain ⟨k, k1, k2⟩ := h1 s (by omega)
      have k3 : (u 3 s).toNatClampNeg = k := by rw [k2]; exact nI_clamp (by omega)
      rw [k3]
      have k0 : ¬ k = 0 := fun z => a3.1 (by rw [k2, z]; rfl)
      refine ⟨by omega, by omega, ?_, ?_⟩
      · rw [(h2 s k (by omega) (by omega) k1 k2).1]
        congr 1
        omega
      · rw [← hB s k a1 (by omega) (by omega) k1 k2, a3.2]
        decide
    · obtain ⟨k, k1, k2⟩ := h1 s (by omega)
      obtain ⟨k', k1', k2'⟩ := h1 s' (by omega)
      have e9 : k = k' := by
        have := e
        simp only [k2, k2'] at this
        rw [nI_clamp (by omega), nI_clamp (by omega)] at this
        exact this
      exact d3 s s' (by omega) (by omega) (by rw [k2, k2', e9]) p1.1
  · have hex : ∀ k, ∃ s, (1 ≤ k → k ≤ M → u 16 k = nI b → s < 24 ∧ u 3 s = nI k) := by
      intro k
      by_cases q : 1 ≤ k ∧ k ≤ M ∧ u 16 k = nI b
      · rcases h3 k q.1 q.2.1 with z | ⟨s, s1, s2⟩
        · rw [q.2.2] at z
          exact absurd z (m1_ne (by omega))
        · exact ⟨s, fun _ _ _ => ⟨s1, s2⟩⟩
      · exact ⟨0, fun a1 a2 a3 => absurd ⟨a1, a2, a3⟩ q⟩
    obtain ⟨g, hg⟩ := Classical.axiomOfChoice hex
    refine cnF_inj g (8 * b) 8 M 1 _ (fun k a1 a2 a3 => ?_) (fun k k' a1 a2 a3 a4 p1 p2 e => ?_)
    · obtain ⟨s1, s2⟩ := hg k a1 (by omega) a3.1
      have h9 := (h2 (g k) k s1 a1 (by omega) s2).1
      rw [a3.1] at h9
      have := nI_inj h9 (by omega) (by omega)
      refine ⟨by omega, by omega, by rw [s2]; exact nI_ne0 (by omega) (by omega), ?_⟩
      rw [hB (g k) k (by omega) (by omega) a1 (by omega) s2]
      exact (hBok k a1 (by omega)).elim id (fun y => absurd (ti0'.mpr y.1) a3.2)
    · obtain ⟨s1, s2⟩ := hg k a1 (by omega) p1.1
      obtain ⟨s1', s2'⟩ := hg k' a3 (by omega) p2.1
      rw [e, s2'] at s2
      exact (nI_inj s2 (by omega) (by omega)).symm
theorem cap_rows {u : Mem} {b : Nat} {V : Int32 → Int32} : ∀ X : Nat, (((rowsL u X).filter (keepB b V)).filter (fun r => decide (r.1 = nI b))).length ≤ cnF (fun i => u 7 i = nI b) 0 X := by
  intro X
  induction X with
  | zero => exact Nat.zero_le _
  | succ X ih =>
    have e : rowsL u (X + 1) = rowsL u X ++ [(u 7 X, u 8 X, u 9 X)] := by
      unfold rowsL
      rw [List.range_succ, List.map_append]
      rfl
    rw [e, List.filter_append, List.filter_append, List.length_append, cnF_last, Nat.zero_add]
    have h2 : ((([(u 7 X, u 8 X, u 9 X)] : List (Int32 × Int32 × Int32)).filter (keepB b V)).filter (fun r => decide (r.1 = nI b))).length ≤ if u 7 X = nI b then 1 else 0 := by
      rw [List.filter_cons]
      split
      · rw [List.filter_nil, List.filter_cons, List.filter_nil]
        by_cases g : u 7 X = nI b
        · simp [g]
        · simp [g]
      · simp
    omega
