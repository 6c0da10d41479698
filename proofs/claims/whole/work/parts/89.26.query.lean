/-! Pure: objects, redo, exit answer alike. -/
theorem cnt_slots {c t M S X b : Nat} {u : Mem} (h : SA c t M S X u) (hb : b < 3) : cnF (fun s => ¬ u 3 s = 0) (8 * b) 8 = cnF (fun k => u 16 k = nI b) 1 M := by
  obtain ⟨⟨⟨c1, c2, c3, c4, c5⟩, e1, e2, e3, e4, e5, e6, e7, e8⟩, -, -, -, ⟨d3, h1, h2, h3, h4, h5, h6⟩, -⟩ := h
  apply Nat.le_antisymm
  · refine cnF_inj (fun s => (u 3 s).toNatClampNeg) 1 M 8 (8 * b) _ (fun s a1 a2 a3 => ?_) (fun s s' a1 a2 a3 a4 p1 p2 e => ?_)
    · obtain ⟨k, k1, k2⟩ := h1 s (by omega)
      have k3 : (u 3 s).toNatClampNeg = k := by rw [k2]; exact nI_clamp (by omega)
      rw [k3]
      have k0 : ¬ k = 0 := fun z => a3 (by rw [k2, z]; rfl)
      refine ⟨by omega, by omega, ?_⟩
      rw [(h2 s k (by omega) (by omega) k1 k2).1]
      congr 1
      omega
    · obtain ⟨k, k1, k2⟩ := h1 s (by omega)
      obtain ⟨k', k1', k2'⟩ := h1 s' (by omega)
      have e9 : k = k' := by
        have := e
        simp only [k2, k2'] at this
        rw [nI_clamp (by omega), nI_clamp (by omega)] at this
        exact this
      exact d3 s s' (by omega) (by omega) (by rw [k2, k2', e9]) p1
  · have hex : ∀ k, ∃ s, (1 ≤ k → k ≤ M → u 16 k = nI b → s < 24 ∧ u 3 s = nI k) := by
      intro k
      by_cases q : 1 ≤ k ∧ k ≤ M ∧ u 16 k = nI b
      · rcases h3 k q.1 q.2.1 with z | ⟨s, s1, s2⟩
        · rw [q.2.2] at z
          exact absurd z (m1_ne (by omega))
        · exact ⟨s, fun _ _ _ => ⟨s1, s2⟩⟩
      · exact ⟨0, fun a1 a2 a3 => absurd ⟨a1, a2, a3⟩ q⟩
    obtain ⟨g, hg⟩ := Classical.axiomOfChoice hex
    refine cnF_inj g (8 * b) 8 M 1 _ (fun k a1 a2 a3 => ?_) (fun k k' a1 a2 a3 a4 p1 p2 e => ?_)
    · obtain ⟨s1, s2⟩ := hg k a1 (by omega) a3
      have h9 := (h2 (g k) k s1 a1 (by omega) s2).1
      rw [a3] at h9
      have := nI_inj h9 (by omega) (by omega)
      refine ⟨by omega, by omega, ?_⟩
      rw [s2]
      exact nI_ne0 (by omega) (by omega)
    · obtain ⟨s1, s2⟩ := hg k a1 (by omega) p1
      obtain ⟨s1', s2'⟩ := hg k' a3 (by omega) p2
      rw [e, s2'] at s2
      exact (nI_inj s2 (by omega) (by omega)).symm
theorem g_objects {c N : Nat} {u : Mem} (h : Sim c u) (hN : 600 ≤ N) (a : Int32) : Good c (f_Sh_objects N a u) (f_Md_objects N a) := by
  obtain ⟨t, M, S, X, h⟩ := id h
  rcases out_or a (n := 3) (by omega) with ha | ⟨b, hb, rfl⟩
  · refine good_same (r := -1) ⟨t, M, S, X, h⟩ ?_ ?_
    · unfold f_Sh_objects; rw [isNode_f ha, bd_some, if_pos rfl]
    · unfold f_Md_objects; rw [within_f (n := 3) (by decide) (by omega) ha, bd_some, if_pos rfl]
  · have hM := h.1.1
    refine good_same (r := nI (cnF (fun k => u 16 k = nI b) 1 M)) ⟨t, M, S, X, h⟩ ?_ ?_
    · unfold f_Sh_objects; rw [isNode_t hb, bd_some, if_neg (by decide), countOn_eq hN hb, bd_some, cnt_slots h hb]
    · exact objects_eq hN h.1.2.2.2.2.1 (by omega) hb
/-- the least of the old stamps of a node's messages, from i on, beginning with x -/
def lsQ (u : Mem) (q : Nat) (a : Int32) : Nat → Nat → Int32 → Int32
  | _, 0, x => x
  | i, d + 1, x => lsQ u q a (i + 1) d (if u q (4 * i) = a then imn x (u q (4 * i + 3)) else x)
theorem imn_ti (x y : Int32) : (imn x y).toInt = if y.toInt < x.toInt then y.toInt else x.toInt := by
  unfold imn
  by_cases h : y < x
  · rw [if_pos h, if_pos (ti_lt.mp h)]
  · rw [if_neg h, if_neg (fun z => h (ti_lt.mpr z))]
theorem imx_ti (x y : Int32) : (imx x y).toInt = if x.toInt < y.toInt then y.toInt else x.toInt := by
  unfold imx
  by_cases h : x < y
  · rw [if_pos h, if_pos (ti_lt.mp h)]
  · rw [if_neg h, if_neg (fun z => h (ti_lt.mpr z))]
theorem imn_asc (a x y : Int32) : imn (imn a x) y = imn a (imn x y) := by
  rw [ti_eq]
  simp only [imn_ti]
  split <;> split <;> (try split) <;> omega
theorem lsQ_imn {u : Mem} {q : Nat} {a m : Int32} : ∀ (d i : Nat) (x : Int32), lsQ u q a i d (imn m x) = imn m (lsQ u q a i d x) := by
  intro d
  induction d with
  | zero => intro i x; rfl
  | succ d ih =>
    intro i x
    unfold lsQ
    by_cases h : u q (4 * i) = a
    · rw [if_pos h, if_pos h, imn_asc, ih]
    · rw [if_neg h, if_neg h, ih]
theorem imn_max (m : Int32) : imn m 2147483647 = m := by
  have e : (2147483647 : Int32).toInt = 2147483647 := by decide
  have h := Int32.toInt_lt m
  rw [ti_eq, imn_ti, e]
  split <;> omega
theorem least_loop {N S : Nat} {κ : Int32 → Mem → Rs} {a : Int32} {u : Mem} (hS : u 10 1 = nI S) (hS2 : S ≤ 40) : ∀ (d i n : Nat) (x : Int32), i + d = S → d < n → k_Qu_leastOldStamp_5 N κ n a x (nI i) u = κ (lsQ u 11 a i d x) u := by
  intro d
  induction d with
  | zero =>
    intro i n x hi hn
    obtain ⟨n, rfl, hn⟩ := succ_of hn
    rw [k_Qu_leastOldStamp_5, hS, if_pos (nI_le (by omega) (by omega))]
    rfl
  | succ d ih =>
    intro i n x hi hn
    obtain ⟨n, rfl, hn⟩ := succ_of hn
    rw [k_Qu_leastOldStamp_5, hS, if_neg (nI_ge (by omega) (by omega)), show f_Qu_part N (nI i) 0 u = _ from part_eq (f := 0) (by omega) (by omega), bd_some, Nat.add_zero, nI_1, lsQ]
    by_cases h : u 11 (4 * i) = a
    · rw [if_pos h, if_pos h, show f_Qu_part N (nI i) 3 u = _ from part_eq (f := 3) (by omega) (by omega), bd_some]
      exact ih (i + 1) n _ (by omega) (by omega)
    · rw [if_neg h, if_neg h]
      exact ih (i + 1) n _ (by omega) (by omega)
theorem redoOf_eq {N S b : Nat} {u : Mem} (hN : 600 ≤ N) (hS : u 10 1 = nI S) (hS2 : S ≤ 40) (hb : b < 3) : f_Sh_redoOf N (nI b) u = some (lsQ u 11 (nI b) 0 S (imn (u 12 b) (u 13 b)), u) := by
  unfold f_Sh_redoOf f_Qu_leastOldStamp
  rw [gdN hb (by omega), gdN hb (by omega), show k_Qu_leastOldStamp_5 N _ N (nI b) 2147483647 0 u = _ from least_loop (N := N) (κ := fun x v => some (x, v)) hS hS2 S 0 N 2147483647 (by omega) (by omega), bd_some]
  simp (disch := omega) only [nI_clamp]
  rw [← lsQ_imn, imn_max]
theorem redo_loop {N S : Nat} {κ : Int32 → Mem → Rs} {a : Int32} {u : Mem} (hS : u 15 10 = nI S) (hS2 : S ≤ 40) : ∀ (d i n : Nat) (x : Int32), i + d = S → d < n → k_Md_redo_44 N κ n a x (nI i) u = κ (lsQ u 23 a i d x) u := by
  intro d
  induction d with
  | zero =>
    intro i n x hi hn
    obtain ⟨n, rfl, hn⟩ := succ_of hn
    rw [k_Md_redo_44, hS, if_pos (nI_le (by omega) (by omega))]
    rfl
  | succ d ih =>
    intro i n x hi hn
    obtain ⟨n, rfl, hn⟩ := succ_of hn
    have e0 : 4 * nI i = nI (4 * i) := pk_mul 4 i
    have e3 : nI (4 * i) + 3 = nI (4 * i + 3) := nI_add (4 * i) 3
    rw [k_Md_redo_44, hS, if_neg (nI_ge (by omega) (by omega)), e0, e3, gdN (by omega) (by omega)]
    simp (disch := omega) only [nI_clamp]
    rw [nI_1, lsQ]
    by_cases h : u 23 (4 * i) = a
    · rw [if_pos h, if_pos h, gdN (by omega) (by omega)]
      rw [gdN (by omega) (by omega)]
      by_cases h2 : x ≤ u 23 (4 * i + 3)
      · rw [if_pos h2, show imn x (u 23 (4 * i + 3)) = x from if_neg (fun z => by rw [ti_le] at h2; rw [ti_lt] at z; omega)]
        exact ih (i + 1) n _ (by omega) (by omega)
      · rw [if_neg h2, show imn x (u 23 (4 * i + 3)) = u 23 (4 * i + 3) from if_pos (by rw [ti_le] at h2; rw [ti_lt]; omega)]
        exact ih (i + 1) n _ (by omega) (by omega)
    · rw [if_neg h, if_neg h]
      exact ih (i + 1) n _ (by omega) (by omega)
theorem imn_alt (x y : Int32) : imn x y = if y ≤ x then y else x := by
  rw [ti_eq, imn_ti]
  by_cases h : y ≤ x
  · rw [if_pos h]
    rw [ti_le] at h
    split <;> omega
  · rw [if_neg h]
    rw [ti_le] at h
    split <;> omega
theorem redo_eq {N S b : Nat} {u : Mem} (hN : 600 ≤ N) (hS : u 15 10 = nI S) (hS2 : S ≤ 40) (hb : b < 3) : f_Md_redo N (nI b) u = some (lsQ u 23 (nI b) 0 S (imn (u 21 b) (u 22 b)), u) := by
  have key : ∀ x : Int32, k_Md_redo_44 N (fun (x19 : Int32) (u20 : Mem) => some (x19, u20)) N (nI b) x 0 u = some (lsQ u 23 (nI b) 0 S x, u) := fun x => redo_loop (N := N) (κ := fun x v => some (x, v)) hS hS2 S 0 N x (by omega) (by omega)
  unfold f_Md_redo
  dsimp only [jn]
  rw [within_t (n := 3) (by decide) hb (by omega), bd_some, if_neg (by decide), gdN hb (by omega), gdN hb (by omega)]
  simp (disch := omega) only [nI_clamp]
  rw [gdN hb (by omega), gdN hb (by omega), key, key, imn_alt]
  split <;> rfl
theorem lsQ_congr {u v : Mem} {q q' : Nat} {a : Int32} : ∀ (d i : Nat) (x : Int32), (∀ j, 4 * i ≤ j → j < 4 * (i + d) → u q j = v q' j) → lsQ u q a i d x = lsQ v q' a i d x := by
  intro d
  induction d with
  | zero => intro i x _; rfl
  | succ d ih =>
    intro i x h
    unfold lsQ
    rw [h (4 * i) (by omega) (by omega), h (4 * i + 3) (by omega) (by omega)]
    exact ih (i + 1) _ (fun j h1 h2 => h j (by omega) (by omega))
theorem redo_same {c t M S X b : Nat} {u : Mem} (h : SA c t M S X u) (hb : b < 3) : lsQ u 23 (nI b) 0 S (imn (u 21 b) (u 22 b)) = lsQ u 11 (nI b) 0 S (imn (u 12 b) (u 13 b)) := by
  have h3 := h.2.2.1 b hb
  rw [h3.1, h3.2.1]
  exact lsQ_congr S 0 _ (fun j _ h2 => h.2.2.2.1.1 j (by omega))
theorem g_redo {c N : Nat} {u : Mem} (h : Sim c u) (hN : 600 ≤ N) (a : Int32) : Good c (f_Sh_redo N a u) (f_Md_redo N a) := by
  obtain ⟨t, M, S, X, h⟩ := id h
  rcases out_or a (n := 3) (by omega) with ha | ⟨b, hb, rfl⟩
  · refine good_same (r := -1) ⟨t, M, S, X, h⟩ ?_ ?_
    · unfold f_Sh_redo; rw [isNode_f ha, bd_some, if_pos rfl]
    · unfold f_Md_redo; rw [within_f (n := 3) (by decide) (by omega) ha, bd_some, if_pos rfl]
  · have hS := h.1.1.2.2.2.1
    refine good_same (r := lsQ u 11 (nI b) 0 S (imn (u 12 b) (u 13 b))) ⟨t, M, S, X, h⟩ ?_ ?_
    · unfold f_Sh_redo; rw [isNode_t hb, bd_some, if_neg (by decide), redoOf_eq hN h.1.2.2.2.2.2.1 hS hb, bd_some]
    · rw [redo_eq hN h.1.2.2.2.2.2.2.1 hS hb, redo_same h hb]
theorem stampAt_eq {N i : Nat} {u : Mem} (hi : i < 105) : f_Xt_stampAt N (nI i) u = some (u 9 i, u) := by
  unfold f_Xt_stampAt
  rw [gdN hi (by omega)]
  simp (disch := omega) only [nI_clamp]
theorem nodeAt_eq {N i : Nat} {u : Mem} (hi : i < 105) : f_Xt_nodeAt N (nI i) u = some (u 7 i, u) := by
  unfold f_Xt_nodeAt
  rw [gdN hi (by omega)]
  simp (disch := omega) only [nI_clamp]
theorem objectAt_eq {N i : Nat} {u : Mem} (hi : i < 105) : f_Xt_objectAt N (nI i) u = some (u 8 i, u) := by
  unfold f_Xt_objectAt
  rw [gdN hi (by omega)]
  simp (disch := omega) only [nI_clamp]
theorem setStamp_eq {N i : Nat} {x : Int32} {u : Mem} (hi : i < 105) : f_Xt_setStamp N (nI i) x u = some (0, stM u 9 i x) := by
  unfold f_Xt_setStamp
  rw [gdN hi (by omega)]
  simp (disch := omega) only [nI_clamp]
  rfl
/-- within(object, 1, made) -/
theorem win_t {N M k : Nat} {u : Mem} (hM : M ≤ 512) (h1 : 1 ≤ k) (h2 : k ≤ M) : f_Md_within N (nI k) 1 (nI M) u = some (1, u) := by
  unfold f_Md_within
  rw [if_neg (show ¬ nI k < (1 : Int32) from nI_nlt (b := 1) h1 (by omega)), if_neg (nI_nlt h2 (by omega))]
theorem win_f {N M : Nat} {k : Int32} {u : Mem} (h : k < 1 ∨ nI M < k) : f_Md_within N k 1 (nI M) u = some (0, u) := by
  unfold f_Md_within
  rcases h with h | h
  · rw [if_pos h]
  · split <;> first | rfl | rw [if_pos h]
theorem g_exit {c N : Nat} {u : Mem} (h : Sim c u) (hN : 600 ≤ N) (a o : Int32) : Good c (f_Sh_exit N a o u) (f_Md_exit N a o) := by
  obtain ⟨t, M, S, X, h⟩ := id h
  have hM := h.1.1
  have e7 := h.1.2.2.2.2.2.2.2.1
  have e4 := h.1.2.2.2.2.1
  obtain ⟨x1, x2, x3, x4, x5⟩ := h.2.2.2.2.2
  by_cases hex : ∃ i, i < X ∧ u 7 i = a ∧ u 8 i = o
  · obtain ⟨i, i1, i2, i3⟩ := hex
    obtain ⟨b, k, b1, k1, k2, g7, g8, g20, g9, -⟩ := x1 i i1
    have ea : a = nI b := i2.symm.trans g7
    have eo : o = nI k := i3.symm.trans g8
    refine good_same (r := u 9 i) ⟨t, M, S, X, h⟩ ?_ ?_
    · unfold f_Sh_exit; rw [rowOf_some hN e7 (by omega) x3 i1 i2 i3, bd_some, if_neg (m1_ne (by omega)), stampAt_eq (by omega), bd_some]
    · unfold f_Md_exit
      dsimp only [jn]
      rw [ea, eo, within_t (n := 3) (by decide) b1 (by omega), bd_some, if_neg (by decide), e4, win_t (by omega) k1 k2, bd_some, if_neg (by decide), root_eq2, gdN (by omega) (by omega), gdN (by omega) (by omega), if_neg (show ¬ (1 : Int32) = 0 by decide)]
      simp (disch := omega) only [nI_clamp]
      rw [g20, if_neg (by rw [ti_le, show (0 : Int32).toInt = 0 by decide]; omega)]
  · refine good_same (r := -1) ⟨t, M, S, X, h⟩ ?_ ?_
    · unfold f_Sh_exit; rw [rowOf_none hN e7 (by omega) (fun j hj z => hex ⟨j, hj, z.1, z.2⟩), bd_some, if_pos rfl]
    · unfold f_Md_exit
      dsimp only [jn]
      rcases out_or a (n := 3) (by omega) with ha | ⟨b, hb, rfl⟩
      · rw [within_f (n := 3) (by decide) (by omega) ha, bd_some, if_pos rfl, if_pos rfl]
      · rw [within_t (n := 3) (by decide) hb (by omega), bd_some, if_neg (by decide), e4]
        rcases num_or o (M := M) (by omega) with ho | ⟨k, k1, k2, rfl⟩
        · rw [win_f ho, bd_some, if_pos rfl, if_pos rfl]
        · rw [win_t (by omega) k1 k2, bd_some, if_neg (by decide), root_eq2, gdN (by omega) (by omega)]
          simp (disch := omega) only [nI_clamp]
          have h20 : (u 20 (3 * k + b)).toInt ≤ 0 := (x4 b k hb (by omega)).elim (fun z => absurd z hex) id
          rw [if_pos (by rw [ti_le, show (0 : Int32).toInt = 0 by decide]; exact h20), if_pos trivial]
