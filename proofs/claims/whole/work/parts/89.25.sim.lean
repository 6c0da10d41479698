/-! Pure: the class's memory beside the reference's. -/
def SC (c t M S X : Nat) (u : Mem) : Prop := (c ≤ 512 ∧ t ≤ c ∧ M ≤ t ∧ S ≤ 40 ∧ X ≤ 105) ∧ u 0 7 = nI t ∧ u 15 0 = nI t ∧ u 2 3 = nI M ∧ u 15 1 = nI M ∧ u 10 1 = nI S ∧ u 15 10 = nI S ∧ u 6 3 = nI X ∧ u 15 9 = u 0 8
def SR (u : Mem) : Prop := ∀ j, j < 9 → u 19 j = u 1 j
def SL (t : Nat) (u : Mem) : Prop := ∀ n, n < 3 → u 21 n = u 12 n ∧ u 22 n = u 13 n ∧ 0 ≤ (u 12 n).toInt ∧ (u 12 n).toInt ≤ t ∧ (u 0 8).toInt ≤ (u 12 n).toInt
def SQ (t S : Nat) (u : Mem) : Prop := (∀ i, i < 4 * S → u 23 i = u 11 i) ∧ ∀ i, i < S → (u 11 (4 * i + 2)).toInt ≤ t
def SH (M t : Nat) (u : Mem) : Prop := dist3 u ∧ (∀ s, s < 24 → ∃ k, k ≤ M ∧ u 3 s = nI k) ∧ (∀ s k, s < 24 → 1 ≤ k → k ≤ M → u 3 s = nI k → u 16 k = nI (s / 8) ∧ u 17 k = u 5 s ∧ u 18 (2 * k) = u 4 (2 * s) ∧ u 18 (2 * k + 1) = u 4 (2 * s + 1)) ∧
  (∀ k, 1 ≤ k → k ≤ M → u 16 k = -1 ∨ ∃ s, s < 24 ∧ u 3 s = nI k) ∧ (∀ s, s < 24 → u 3 s = 0 → u 5 s = -1 ∧ u 4 (2 * s) = 0 ∧ u 4 (2 * s + 1) = 0) ∧ (∀ s, s < 24 → u 5 s = -1 ∨ (0 ≤ (u 5 s).toInt ∧ (u 5 s).toInt ≤ t)) ∧ ∀ k, M < k → k ≤ 512 → u 18 (2 * k) = 0 ∧ u 18 (2 * k + 1) = 0
def SX (M t X : Nat) (u : Mem) : Prop := (∀ i, i < X → ∃ b k, b < 3 ∧ 1 ≤ k ∧ k ≤ M ∧ u 7 i = nI b ∧ u 8 i = nI k ∧ u 20 (3 * k + b) = u 9 i ∧ 1 ≤ (u 9 i).toInt ∧ (u 9 i).toInt ≤ t ∧ ((u 12 b).toInt < (u 9 i).toInt → ∃ s, s < 24 ∧ u 3 s = nI k ∧ ¬ s / 8 = b ∧ (u 9 i).toInt ≤ (u 5 s).toInt)) ∧
  (∀ i j, i < j → j < X → (u 8 i).toInt ≤ (u 8 j).toInt) ∧ uniq78 X u ∧ (∀ b k, b < 3 → k ≤ 512 → (∃ i, i < X ∧ u 7 i = nI b ∧ u 8 i = nI k) ∨ (u 20 (3 * k + b)).toInt ≤ 0) ∧
  ∀ b, b < 3 → cnF (fun i => u 7 i = nI b ∧ (u 9 i).toInt ≤ (u 12 b).toInt) 0 X ≤ 19
def SA (c t M S X : Nat) (u : Mem) : Prop := SC c t M S X u ∧ SR u ∧ SL t u ∧ SQ t S u ∧ SH M t u ∧ SX M t X u
def Sim (c : Nat) (u : Mem) : Prop := ∃ t M S X, SA c t M S X u
theorem SA.more {c t M S X : Nat} {u : Mem} (h : SA c t M S X u) (hc : c + 1 ≤ 512) : SA (c + 1) t M S X u := by
  obtain ⟨⟨⟨h1, h2, h3, h4, h5⟩, h6⟩, h7⟩ := h
  exact ⟨⟨⟨hc, by omega, h3, h4, h5⟩, h6⟩, h7⟩
theorem Sim.more {c : Nat} {u : Mem} (h : Sim c u) (hc : c + 1 ≤ 512) : Sim (c + 1) u := by
  obtain ⟨t, M, S, X, h⟩ := h
  exact ⟨t, M, S, X, h.more hc⟩
/-- a number: of no object that is there, or of the object in a slot -/
theorem slot_or {c t M S X : Nat} {u : Mem} (h : SA c t M S X u) (k : Int32) {N : Nat} (hN : 600 ≤ N) :
    (f_Hp_slotOf N k u = some (-1, u) ∧ f_Md_there N k u = some (0, u) ∧ ∀ s, s < 24 → ¬ u 3 s = k ∨ k = 0) ∨ ∃ s j, s < 24 ∧ 1 ≤ j ∧ j ≤ M ∧ k = nI j ∧ u 3 s = nI j ∧ f_Hp_slotOf N k u = some (nI s, u) ∧ f_Md_there N k u = some (1, u) := by
  obtain ⟨⟨⟨c1, c2, c3, c4, c5⟩, e1, e2, e3, e4, e5, e6, e7, e8⟩, -, -, -, ⟨d3, h1, h2, h3, h4, h5, h6⟩, -⟩ := h
  rcases num_or k (M := M) (by omega) with hk | ⟨j, j1, j2, rfl⟩
  · left
    have hno : ∀ s, s < 24 → ¬ u 3 s = k ∨ k = 0 := by
      intro s hs
      obtain ⟨j, j1, j2⟩ := h1 s hs
      by_cases e : u 3 s = k
      · right
        rw [j2] at e
        rw [← e] at hk ⊢
        rcases hk with hk | hk
        · have : j < 1 := (nI_ltI (b := 1) (by omega) (by omega)).mp hk
          rw [show j = 0 by omega]; rfl
        · have := (nI_ltI (by omega) (by omega)).mp hk
          omega
      · exact Or.inl e
    refine ⟨?_, there_o e4 hk, hno⟩
    by_cases h0 : 0 < k
    · refine slotOf_none hN (fun s hs => (hno s hs).elim id (fun z => ?_))
      rw [z] at h0
      exact absurd h0 (by decide)
    · exact slotOf_neg h0
  · rcases h3 j j1 j2 with hd | ⟨s, s1, s2⟩
    · left
      have hno : ∀ s, s < 24 → ¬ u 3 s = nI j := by
        intro s hs e
        have := (h2 s j hs j1 j2 e).1
        rw [hd] at this
        exact m1_ne (by omega) this.symm
      refine ⟨slotOf_none hN hno, there_d e4 (by omega) j1 j2 (by rw [hd]; exact m1_lt), fun s hs => Or.inl (hno s hs)⟩
    · right
      refine ⟨s, j, s1, j1, j2, rfl, s2, slotOf_some hN d3 s1 s2 (by omega) (by omega), there_t e4 (by omega) j1 j2 ?_⟩
      rw [(h2 s j s1 j1 j2 s2).1]
      exact nI_pos (by omega)
/-- a call that answers alike and keeps the relation -/
def Good (c : Nat) (o1 : Rs) (o2 : Mem → Rs) : Prop := ∃ r w1 w2, o1 = some (r, w1) ∧ o2 w1 = some (r, w2) ∧ Sim c w2
theorem good_same {c : Nat} {u : Mem} {o1 : Rs} {o2 : Mem → Rs} {r : Int32} (h : Sim c u) (h1 : o1 = some (r, u)) (h2 : o2 u = some (r, u)) : Good c o1 o2 := ⟨r, u, u, h1, h2, h⟩
theorem root_eq {b r : Nat} : nI b * 3 + nI r = nI (3 * b + r) := by
  rw [show nI b * 3 = nI (b * 3) from pk_mul b 3, nI_add, Nat.mul_comm]
theorem root_eq2 {b r : Nat} : 3 * nI b + nI r = nI (3 * b + r) := by
  rw [show 3 * nI b = nI (3 * b) from pk_mul 3 b, nI_add]
theorem two_eq {b r : Nat} : 2 * nI b + nI r = nI (2 * b + r) := by
  rw [show 2 * nI b = nI (2 * b) from pk_mul 2 b, nI_add]
theorem four_eq {b r : Nat} : 4 * nI b + nI r = nI (4 * b + r) := by
  rw [show 4 * nI b = nI (4 * b) from pk_mul 4 b, nI_add]
theorem four_eq2 {b r : Nat} : nI b * 4 + nI r = nI (4 * b + r) := by
  rw [show nI b * 4 = nI (b * 4) from pk_mul b 4, nI_add, Nat.mul_comm]
theorem g_root {c N : Nat} {u : Mem} (h : Sim c u) (hN : 600 ≤ N) (a b : Int32) : Good c (f_Sh_root N a b u) (f_Md_root N a b) := by
  obtain ⟨t, M, S, X, h⟩ := id h
  rcases out_or a (n := 3) (by omega) with ha | ⟨i, hi, rfl⟩
  · refine good_same (r := -1) ⟨t, M, S, X, h⟩ ?_ ?_
    · unfold f_Sh_root; rw [isRoot_f (Or.inl ha), bd_some, if_pos rfl]
    · unfold f_Md_root; rw [place_f (Or.inl ha), bd_some, if_pos rfl]
  · rcases out_or b (n := 3) (by omega) with hb | ⟨j, hj, rfl⟩
    · refine good_same (r := -1) ⟨t, M, S, X, h⟩ ?_ ?_
      · unfold f_Sh_root; rw [isRoot_f (Or.inr hb), bd_some, if_pos rfl]
      · unfold f_Md_root; rw [place_f (Or.inr hb), bd_some, if_pos rfl]
    · refine good_same (r := u 1 (3 * i + j)) ⟨t, M, S, X, h⟩ ?_ ?_
      · unfold f_Sh_root; rw [isRoot_t hi hj, bd_some, if_neg (by decide), root_eq, gdN (by omega) (by omega), nI_clamp (by omega)]
      · unfold f_Md_root; rw [place_t hi hj, bd_some, if_neg (by decide), root_eq2, gdN (by omega) (by omega), nI_clamp (by omega), h.2.1 _ (by omega)]
theorem g_owner {c N : Nat} {u : Mem} (h : Sim c u) (hN : 600 ≤ N) (a : Int32) : Good c (f_Sh_owner N a u) (f_Md_owner N a) := by
  obtain ⟨t, M, S, X, h⟩ := id h
  rcases slot_or h a hN with ⟨h1, h2, -⟩ | ⟨s, j, s1, j1, j2, rfl, s2, h1, h2⟩
  · refine good_same (r := -1) ⟨t, M, S, X, h⟩ ?_ ?_
    · unfold f_Sh_owner; rw [h1, bd_some, if_pos rfl]
    · unfold f_Md_owner; rw [h2, bd_some, if_pos rfl]
  · have hM := h.1.1
    refine good_same (r := nI (s / 8)) ⟨t, M, S, X, h⟩ ?_ ?_
    · unfold f_Sh_owner; rw [h1, bd_some, if_neg (m1_ne (by omega)), nodeOf_eq (by omega), bd_some]
    · unfold f_Md_owner; rw [h2, bd_some, if_neg (by decide), gdN (by omega) (by omega), nI_clamp (by omega), (h.2.2.2.2.1.2.2.1 s j s1 j1 j2 s2).1]
theorem g_entry {c N : Nat} {u : Mem} (h : Sim c u) (hN : 600 ≤ N) (a : Int32) : Good c (f_Sh_entry N a u) (f_Md_entry N a) := by
  obtain ⟨t, M, S, X, h⟩ := id h
  rcases slot_or h a hN with ⟨h1, h2, -⟩ | ⟨s, j, s1, j1, j2, rfl, s2, h1, h2⟩
  · refine good_same (r := -1) ⟨t, M, S, X, h⟩ ?_ ?_
    · unfold f_Sh_entry; rw [h1, bd_some, if_pos rfl]
    · unfold f_Md_entry; rw [h2, bd_some, if_pos rfl]
  · have hM := h.1.1
    refine good_same (r := u 5 s) ⟨t, M, S, X, h⟩ ?_ ?_
    · unfold f_Sh_entry; rw [h1, bd_some, if_neg (m1_ne (by omega)), entryAt_eq s1, bd_some]
    · unfold f_Md_entry; rw [h2, bd_some, if_neg (by decide), gdN (by omega) (by omega), nI_clamp (by omega), (h.2.2.2.2.1.2.2.1 s j s1 j1 j2 s2).2.1]
theorem g_field {c N : Nat} {u : Mem} (h : Sim c u) (hN : 600 ≤ N) (a b : Int32) : Good c (f_Sh_field N a b u) (f_Md_field N a b) := by
  obtain ⟨t, M, S, X, h⟩ := id h
  rcases slot_or h a hN with ⟨h1, h2, -⟩ | ⟨s, j, s1, j1, j2, rfl, s2, h1, h2⟩
  · refine good_same (r := -1) ⟨t, M, S, X, h⟩ ?_ ?_
    · unfold f_Sh_field; rw [h1, bd_some, if_pos rfl]
    · unfold f_Md_field; rw [h2, bd_some, if_pos rfl]
  · have hM := h.1.1
    rcases out_or b (n := 2) (by omega) with hb | ⟨f, hf, rfl⟩
    · refine good_same (r := -1) ⟨t, M, S, X, h⟩ ?_ ?_
      · unfold f_Sh_field; rw [h1, bd_some, if_neg (m1_ne (by omega)), isField_f hb, bd_some, if_pos rfl]
      · unfold f_Md_field; rw [h2, bd_some, if_neg (by decide), within_f (n := 2) (by decide) (by omega) hb, bd_some, if_pos rfl]
    · refine good_same (r := u 4 (2 * s + f)) ⟨t, M, S, X, h⟩ ?_ ?_
      · unfold f_Sh_field; rw [h1, bd_some, if_neg (m1_ne (by omega)), isField_t hf, bd_some, if_neg (by decide), fieldAt_eq s1 hf, bd_some]
      · unfold f_Md_field; rw [h2, bd_some, if_neg (by decide), within_t (n := 2) (by decide) hf (by omega), bd_some, if_neg (by decide), two_eq, gdN (by omega) (by omega), nI_clamp (by omega)]
        have h3 := h.2.2.2.2.1.2.2.1 s j s1 j1 j2 s2
        rcases (show f = 0 ∨ f = 1 by omega) with rfl | rfl
        · rw [Nat.add_zero, Nat.add_zero, h3.2.2.1]
        · rw [h3.2.2.2]
theorem g_messages {c N : Nat} {u : Mem} (h : Sim c u) : Good c (f_Sh_messages N u) (f_Md_messages N) := by
  obtain ⟨t, M, S, X, h⟩ := id h
  have e5 := h.1.2.2.2.2.2.1
  have e6 := h.1.2.2.2.2.2.2.1
  refine good_same (r := nI S) ⟨t, M, S, X, h⟩ ?_ ?_
  · unfold f_Sh_messages f_Qu_size; rw [bd_some, e5]
  · unfold f_Md_messages; rw [e6]
theorem g_threshold {c N : Nat} {u : Mem} (h : Sim c u) : Good c (f_Sh_threshold N u) (f_Md_threshold N) := by
  obtain ⟨t, M, S, X, h⟩ := id h
  refine good_same (r := u 0 8) ⟨t, M, S, X, h⟩ ?_ ?_
  · rfl
  · unfold f_Md_threshold; rw [h.1.2.2.2.2.2.2.2.2]
theorem sub1 {S : Nat} (h : S < 2 ^ 30) : (nI S - 1).toInt = (S : Int) - 1 := pk_sub_toInt (b := 1) h (by omega)
theorem has_t {N S i : Nat} {u : Mem} (hS : u 10 1 = nI S) (hS2 : S ≤ 40) (hi : i < S) : f_Qu_has N (nI i) u = some (1, u) := by
  unfold f_Qu_has
  rw [hS, if_neg (nI_pos (by omega)), if_neg (nI_ge hi (by omega))]
theorem has_f {N S : Nat} {a : Int32} {u : Mem} (hS : u 10 1 = nI S) (h : outR a S) : f_Qu_has N a u = some (0, u) := by
  unfold f_Qu_has
  rw [hS]
  rcases h with h | h
  · rw [if_pos h]
  · split <;> first | rfl | rw [if_pos h]
theorem part_eq {N i f : Nat} {u : Mem} (hi : i < 40) (hf : f < 4) : f_Qu_part N (nI i) (nI f) u = some (u 11 (4 * i + f), u) := by
  unfold f_Qu_part
  rw [four_eq2, gdN (by omega) (by omega), nI_clamp (by omega)]
theorem g_message {c N : Nat} {u : Mem} (h : Sim c u) (a b : Int32) : Good c (f_Sh_message N a b u) (f_Md_message N a b) := by
  obtain ⟨t, M, S, X, h⟩ := id h
  have e5 := h.1.2.2.2.2.2.1
  have e6 := h.1.2.2.2.2.2.2.1
  have hS := h.1.1.2.2.2.1
  rcases out_or a (n := S) (by omega) with ha | ⟨i, hi, rfl⟩
  · refine good_same (r := -1) ⟨t, M, S, X, h⟩ ?_ ?_
    · unfold f_Sh_message; rw [has_f e5 ha, bd_some, if_pos rfl]
    · unfold f_Md_message; rw [e6, within_f (n := S) (sub1 (by omega)) (by omega) ha, bd_some, if_pos rfl]
  · rcases out_or b (n := 4) (by omega) with hb | ⟨f, hf, rfl⟩
    · refine good_same (r := -1) ⟨t, M, S, X, h⟩ ?_ ?_
      · unfold f_Sh_message
        rw [has_t e5 hS hi, bd_some, if_neg (by decide)]
        rcases hb with hb | hb
        · rw [if_pos hb]
        · split
          · rfl
          · rw [if_pos (show (4 : Int32) ≤ b from hb)]
      · unfold f_Md_message; rw [e6, within_t (n := S) (sub1 (by omega)) hi (by omega), bd_some, if_neg (by decide), within_f (n := 4) (by decide) (by omega) hb, bd_some, if_pos rfl]
    · refine good_same (r := u 11 (4 * i + f)) ⟨t, M, S, X, h⟩ ?_ ?_
      · unfold f_Sh_message; rw [has_t e5 hS hi, bd_some, if_neg (by decide), if_neg (nI_pos (by omega)), if_neg (show ¬ (4 : Int32) ≤ nI f from nI_ge (b := 4) hf (by omega)), part_eq (by omega) hf, bd_some]
      · unfold f_Md_message; rw [e6, within_t (n := S) (sub1 (by omega)) hi (by omega), bd_some, if_neg (by decide), within_t (n := 4) (by decide) hf (by omega), bd_some, if_neg (by decide), four_eq, gdN (by omega) (by omega), nI_clamp (by omega), h.2.2.2.1.1 _ (by omega)]
