/-! Pure: what the leaf functions answer. -/
theorem inN {i n : Nat} (h : i < n) (hn : n < 2 ^ 31) : inB (nI i) n := vp_in_nI h hn
theorem gdN {i n : Nat} {o : Rs} (h : i < n) (hn : n < 2 ^ 31) : gd (inB (nI i) n) o = o := gd_t (inN h hn)
theorem succ_of {n d : Nat} (h : d < n) : ∃ m, n = m + 1 ∧ d ≤ m := ⟨n - 1, by omega, by omega⟩
theorem ti_lt {a b : Int32} : a < b ↔ a.toInt < b.toInt := Int32.lt_iff_toInt_lt
theorem ti_le {a b : Int32} : a ≤ b ↔ a.toInt ≤ b.toInt := Int32.le_iff_toInt_le
theorem ti_eq {a b : Int32} : a = b ↔ a.toInt = b.toInt := ⟨fun h => h ▸ rfl, Int32.toInt_inj.mp⟩
theorem nI_inj {a b : Nat} (h : nI a = nI b) (ha : a < 2 ^ 31) (hb : b < 2 ^ 31) : a = b := (nI_eq ha hb).mp h
theorem nI_ne {a b : Nat} (h : ¬ a = b) (ha : a < 2 ^ 31) (hb : b < 2 ^ 31) : ¬ nI a = nI b := fun z => h (nI_inj z ha hb)
theorem m1_ne {a : Nat} (ha : a < 2 ^ 31) : ¬ nI a = -1 := by
  intro h
  have h2 := congrArg Int32.toInt h
  rw [nI_toInt ha] at h2
  have h3 : (-1 : Int32).toInt = -1 := by decide
  rw [h3] at h2
  omega
theorem m1_lt : (-1 : Int32) < 0 := by decide
/-- Heap.slotOf -/
theorem slotOf_loop {N : Nat} {κ : Mem → Rs} {k : Int32} {u : Mem} : ∀ (d i n : Nat), i + d = 24 → d < n → (∀ s, i ≤ s → s < 24 → ¬ u 3 s = k) → k_Hp_slotOf_8 N κ n k (nI i) u = κ u := by
  intro d
  induction d with
  | zero =>
    intro i n hi hn hk
    obtain ⟨n, rfl, hn⟩ := succ_of hn
    rw [k_Hp_slotOf_8, if_pos (show (24 : Int32) ≤ nI i from nI_le (a := 24) (by omega) (by omega))]
  | succ d ih =>
    intro i n hi hn hk
    obtain ⟨n, rfl, hn⟩ := succ_of hn
    rw [k_Hp_slotOf_8, if_neg (show ¬ (24 : Int32) ≤ nI i from nI_ge (b := 24) (by omega) (by omega)), gdN (by omega) (by omega), nI_clamp (by omega), if_neg (hk i (by omega) (by omega)), nI_1]
    exact ih (i + 1) n (by omega) (by omega) (fun s h1 h2 => hk s (by omega) h2)
theorem slotOf_find {N : Nat} {κ : Mem → Rs} {k : Int32} {u : Mem} {s : Nat} (hs : s < 24) (hk : u 3 s = k) : ∀ (d i n : Nat), i + d = s → d < n → (∀ j, i ≤ j → j < s → ¬ u 3 j = k) → k_Hp_slotOf_8 N κ n k (nI i) u = some (nI s, u) := by
  intro d
  induction d with
  | zero =>
    intro i n hi hn h
    obtain ⟨n, rfl, hn⟩ := succ_of hn
    have e : i = s := by omega
    subst e
    rw [k_Hp_slotOf_8, if_neg (show ¬ (24 : Int32) ≤ nI i from nI_ge (b := 24) (by omega) (by omega)), gdN (by omega) (by omega), nI_clamp (by omega), if_pos hk]
  | succ d ih =>
    intro i n hi hn h
    obtain ⟨n, rfl, hn⟩ := succ_of hn
    rw [k_Hp_slotOf_8, if_neg (show ¬ (24 : Int32) ≤ nI i from nI_ge (b := 24) (by omega) (by omega)), gdN (by omega) (by omega), nI_clamp (by omega), if_neg (h i (by omega) (by omega)), nI_1]
    exact ih (i + 1) n (by omega) (by omega) (fun j h1 h2 => h j (by omega) h2)
theorem slotOf_none {N : Nat} {k : Int32} {u : Mem} (hN : 600 ≤ N) (h : ∀ s, s < 24 → ¬ u 3 s = k) : f_Hp_slotOf N k u = some (-1, u) := by
  unfold f_Hp_slotOf
  split
  · exact slotOf_loop 24 0 N rfl (by omega) (fun s _ h2 => h s h2)
  · rfl
theorem slotOf_neg {N : Nat} {k : Int32} {u : Mem} (h : ¬ 0 < k) : f_Hp_slotOf N k u = some (-1, u) := by
  unfold f_Hp_slotOf
  rw [if_neg h]
/-- the numbers in the slots differ -/
def dist3 (u : Mem) : Prop := ∀ s s', s < 24 → s' < 24 → u 3 s = u 3 s' → ¬ u 3 s = 0 → s = s'
theorem slotOf_some {N k s : Nat} {u : Mem} (hN : 600 ≤ N) (hd : dist3 u) (hs : s < 24) (hk : u 3 s = nI k) (h0 : 0 < k) (h1 : k < 2 ^ 31) : f_Hp_slotOf N (nI k) u = some (nI s, u) := by
  unfold f_Hp_slotOf
  rw [if_pos (show (0 : Int32) < nI k from nI_lt (a := 0) h0 h1)]
  refine slotOf_find hs hk s 0 N (by omega) (by omega) (fun j _ hj hjk => ?_)
  have := hd j s (by omega) hs (hjk.trans hk.symm) (by rw [hjk]; exact nI_ne0 h0 h1)
  omega
theorem nodeOf_eq {N s : Nat} {u : Mem} (hs : s < 2 ^ 31) : f_Hp_nodeOf N (nI s) u = some (nI (s / 8), u) := by
  unfold f_Hp_nodeOf
  rw [show nI s / 8 = nI (s / 8) from pk_div (d := 8) hs (by omega) (by omega)]
theorem entryAt_eq {N s : Nat} {u : Mem} (hs : s < 24) : f_Hp_entryAt N (nI s) u = some (u 5 s, u) := by
  unfold f_Hp_entryAt
  rw [gdN hs (by omega), nI_clamp (by omega)]
theorem setEntry_eq {N s : Nat} {x : Int32} {u : Mem} (hs : s < 24) : f_Hp_setEntry N (nI s) x u = some (0, stM u 5 s x) := by
  unfold f_Hp_setEntry
  rw [gdN hs (by omega), nI_clamp (by omega)]
  rfl
theorem numberAt_eq {N s : Nat} {u : Mem} (hs : s < 24) : f_Hp_numberAt N (nI s) u = some (u 3 s, u) := by
  unfold f_Hp_numberAt
  rw [gdN hs (by omega), nI_clamp (by omega)]
theorem isTaken_eq {N s : Nat} {u : Mem} (hs : s < 24) : f_Hp_isTaken N (nI s) u = some (if u 3 s = 0 then 0 else 1, u) := by
  unfold f_Hp_isTaken
  rw [gdN hs (by omega), nI_clamp (by omega)]
  split <;> rfl
theorem fix_eq {s f : Nat} (hs : s < 24) (hf : f < 2) : nI s * 2 + nI f = nI (2 * s + f) := by
  rw [show nI s * 2 = nI (s * 2) from pk_mul s 2, nI_add, Nat.mul_comm]
theorem fieldAt_eq {N s f : Nat} {u : Mem} (hs : s < 24) (hf : f < 2) : f_Hp_fieldAt N (nI s) (nI f) u = some (u 4 (2 * s + f), u) := by
  unfold f_Hp_fieldAt
  rw [fix_eq hs hf, gdN (by omega) (by omega), nI_clamp (by omega)]
theorem setField_eq {N s f : Nat} {x : Int32} {u : Mem} (hs : s < 24) (hf : f < 2) : f_Hp_setField N (nI s) (nI f) x u = some (0, stM u 4 (2 * s + f) x) := by
  unfold f_Hp_setField
  rw [fix_eq hs hf, gdN (by omega) (by omega), nI_clamp (by omega)]
  rfl
/-- Heap.free -/
theorem free_eq {N s : Nat} {u : Mem} (hN : 600 ≤ N) (hs : s < 24) : f_Hp_free N (nI s) u = some (0, stM (stM (stM (stM u 3 s 0) 5 s (-1)) 4 (2 * s) 0) 4 (2 * s + 1) 0) := by
  unfold f_Hp_free
  rw [gdN hs (by omega)]
  dsimp only [jn]
  rw [gdN hs (by omega), nI_clamp (by omega)]
  obtain ⟨N1, e1, -⟩ := succ_of (show 2 < N by omega)
  obtain ⟨N2, e2, -⟩ := succ_of (show 1 < N1 by omega)
  obtain ⟨N3, e3, -⟩ := succ_of (show 0 < N2 by omega)
  have s0 : f_Hp_setField N (nI s) 0 0 (stM (stM u 3 s 0) 5 s (-1)) = _ := setField_eq (f := 0) (x := 0) hs (by omega)
  have s1 : f_Hp_setField N (nI s) (0 + 1) 0 (stM (stM (stM u 3 s 0) 5 s (-1)) 4 (2 * s + 0) 0) = _ := setField_eq (f := 1) (x := 0) hs (by omega)
  have key : ∀ κ : Mem → Rs, k_Hp_free_16 N κ (N3 + 1 + 1 + 1) (nI s) 0 (stM (stM u 3 s 0) 5 s (-1)) = κ (stM (stM (stM (stM u 3 s 0) 5 s (-1)) 4 (2 * s) 0) 4 (2 * s + 1) 0) := by
    intro κ
    rw [k_Hp_free_16, if_neg (by decide), s0, bd_some, k_Hp_free_16, if_neg (by decide), s1, bd_some, k_Hp_free_16, if_pos (by decide), Nat.add_zero]
  have e : N = N3 + 1 + 1 + 1 := by omega
  rw [show k_Hp_free_16 N _ N (nI s) 0 _ = k_Hp_free_16 N _ (N3 + 1 + 1 + 1) (nI s) 0 _ from by rw [← e]]
  exact key _
theorem stM_rd (u : Mem) (q j : Nat) (x : Int32) (a b : Nat) : stM u q j x a b = if a = q then (if b = j then x else u a b) else u a b := by
  unfold stM upd
  split <;> rfl
theorem stM_rs {u : Mem} {q j b : Nat} {x : Int32} : stM u q j x q b = if b = j then x else u q b := by
  rw [stM_rd, if_pos rfl]
/-- out of the range 0 .. n - 1 -/
def outR (a : Int32) (n : Nat) : Prop := a < 0 ∨ nI n ≤ a
theorem out_or (a : Int32) {n : Nat} (hn : n < 2 ^ 31) : outR a n ∨ ∃ j, j < n ∧ a = nI j := by
  rcases pk_ix a hn with h | h | h
  · exact Or.inl (Or.inl h)
  · exact Or.inl (Or.inr h)
  · exact Or.inr h
theorem isNode_t {N b : Nat} {u : Mem} (hb : b < 3) : f_Sh_isNode N (nI b) u = some (1, u) := by
  unfold f_Sh_isNode
  rw [if_neg (nI_pos (by omega)), if_neg (show ¬ (3 : Int32) ≤ nI b from nI_ge (b := 3) hb (by omega))]
theorem isNode_f {N : Nat} {a : Int32} {u : Mem} (h : outR a 3) : f_Sh_isNode N a u = some (0, u) := by
  unfold f_Sh_isNode
  split
  · rfl
  · rename_i h2
    rcases h with h | h
    · exact absurd h h2
    · rw [if_pos (show (3 : Int32) ≤ a from h)]
theorem isRoot_t {N b r : Nat} {u : Mem} (hb : b < 3) (hr : r < 3) : f_Sh_isRoot N (nI b) (nI r) u = some (1, u) := by
  unfold f_Sh_isRoot
  rw [isNode_t hb, bd_some, if_neg (by decide), if_neg (nI_pos (by omega)), if_neg (show ¬ (3 : Int32) ≤ nI r from nI_ge (b := 3) hr (by omega))]
theorem isRoot_f {N : Nat} {a r : Int32} {u : Mem} (h : outR a 3 ∨ outR r 3) : f_Sh_isRoot N a r u = some (0, u) := by
  unfold f_Sh_isRoot
  rcases out_or a (n := 3) (by omega) with ha | ⟨b, hb, rfl⟩
  · rw [isNode_f ha, bd_some, if_pos rfl]
  · rw [isNode_t hb, bd_some, if_neg (by decide)]
    rcases h with h | h
    · rcases h with h | h
      · exact absurd h (nI_pos (by omega))
      · exact absurd h (nI_ge hb (by omega))
    · split
      · rfl
      · rename_i h2
        rcases h with h | h
        · exact absurd h h2
        · rw [if_pos (show (3 : Int32) ≤ r from h)]
theorem isField_t {N f : Nat} {u : Mem} (hf : f < 2) : f_Sh_isField N (nI f) u = some (1, u) := by
  unfold f_Sh_isField
  rw [if_neg (nI_pos (by omega)), if_neg (show ¬ (2 : Int32) ≤ nI f from nI_ge (b := 2) hf (by omega))]
theorem isField_f {N : Nat} {a : Int32} {u : Mem} (h : outR a 2) : f_Sh_isField N a u = some (0, u) := by
  unfold f_Sh_isField
  split
  · rfl
  · rename_i h2
    rcases h with h | h
    · exact absurd h h2
    · rw [if_pos (show (2 : Int32) ≤ a from h)]
/-- the reference's within, from 0 to n - 1 -/
theorem within_t {N j n : Nat} {b : Int32} {u : Mem} (hb : b.toInt = (n : Int) - 1) (hj : j < n) (hn : n < 2 ^ 31) : f_Md_within N (nI j) 0 b u = some (1, u) := by
  unfold f_Md_within
  rw [if_neg (nI_pos (by omega)), if_neg]
  rw [ti_lt, hb, nI_toInt (by omega)]
  omega
theorem within_f {N n : Nat} {a b : Int32} {u : Mem} (hb : b.toInt = (n : Int) - 1) (hn : n < 2 ^ 31) (h : outR a n) : f_Md_within N a 0 b u = some (0, u) := by
  unfold f_Md_within
  rcases h with h | h
  · rw [if_pos h]
  · split
    · rfl
    · rw [if_pos]
      rw [ti_le, nI_toInt hn] at h
      rw [ti_lt, hb]
      omega
theorem place_t {N b r : Nat} {u : Mem} (hb : b < 3) (hr : r < 3) : f_Md_isPlace N (nI b) (nI r) u = some (1, u) := by
  unfold f_Md_isPlace
  rw [within_t (n := 3) (by decide) hb (by omega), bd_some, if_neg (by decide), within_t (n := 3) (by decide) hr (by omega), bd_some, if_neg (by decide)]
theorem place_f {N : Nat} {a r : Int32} {u : Mem} (h : outR a 3 ∨ outR r 3) : f_Md_isPlace N a r u = some (0, u) := by
  unfold f_Md_isPlace
  rcases out_or a (n := 3) (by omega) with ha | ⟨b, hb, rfl⟩
  · rw [within_f (n := 3) (by decide) (by omega) ha, bd_some, if_pos rfl]
  · rw [within_t (n := 3) (by decide) hb (by omega), bd_some, if_neg (by decide)]
    rcases h with h | h
    · rcases h with h | h
      · exact absurd h (nI_pos (by omega))
      · exact absurd h (nI_ge hb (by omega))
    · rw [within_f (n := 3) (by decide) (by omega) h, bd_some, if_pos rfl]
/-- the reference's there -/
theorem there_t {N M k : Nat} {u : Mem} (hM : u 15 1 = nI M) (hM2 : M ≤ 512) (h1 : 1 ≤ k) (h2 : k ≤ M) (ho : ¬ u 16 k < 0) : f_Md_there N (nI k) u = some (1, u) := by
  unfold f_Md_there f_Md_within
  rw [hM, if_neg (show ¬ nI k < (1 : Int32) from nI_nlt (b := 1) h1 (by omega)), if_neg (nI_nlt h2 (by omega)), bd_some, if_neg (by decide), gdN (by omega) (by omega), nI_clamp (by omega), if_neg ho]
theorem there_d {N M k : Nat} {u : Mem} (hM : u 15 1 = nI M) (hM2 : M ≤ 512) (h1 : 1 ≤ k) (h2 : k ≤ M) (ho : u 16 k < 0) : f_Md_there N (nI k) u = some (0, u) := by
  unfold f_Md_there f_Md_within
  rw [hM, if_neg (show ¬ nI k < (1 : Int32) from nI_nlt (b := 1) h1 (by omega)), if_neg (nI_nlt h2 (by omega)), bd_some, if_neg (by decide), gdN (by omega) (by omega), nI_clamp (by omega), if_pos ho]
theorem there_o {N M : Nat} {k : Int32} {u : Mem} (hM : u 15 1 = nI M) (h : k < 1 ∨ nI M < k) : f_Md_there N k u = some (0, u) := by
  unfold f_Md_there f_Md_within
  rw [hM]
  by_cases h1 : k < 1
  · rw [if_pos h1, bd_some, if_pos rfl]
  · rw [if_neg h1, if_pos (h.elim (fun z => absurd z h1) id), bd_some, if_pos rfl]
theorem num_or (k : Int32) {M : Nat} (hM : M ≤ 512) : (k < 1 ∨ nI M < k) ∨ ∃ j, 1 ≤ j ∧ j ≤ M ∧ k = nI j := by
  rcases pk_ix k (n := M + 1) (by omega) with h | h | ⟨j, h1, h2⟩
  · refine Or.inl (Or.inl ?_)
    rw [ti_lt] at h ⊢
    have e0 : (0 : Int32).toInt = 0 := by decide
    have e1 : (1 : Int32).toInt = 1 := by decide
    rw [e0] at h
    rw [e1]
    omega
  · refine Or.inl (Or.inr ?_)
    rw [ti_le, nI_toInt (by omega)] at h
    rw [ti_lt, nI_toInt (by omega)]
    omega
  · by_cases h0 : j = 0
    · refine Or.inl (Or.inl ?_)
      rw [h2, h0]
      decide
    · exact Or.inr ⟨j, by omega, by omega, h2⟩
/-- Heap.countOn, and the reference's count of a node's objects -/
theorem countOn_loop {N b : Nat} {κ : Int32 → Mem → Rs} {u : Mem} (hb : b < 3) : ∀ (d i n c : Nat), i + d = 8 * b + 8 → d < n → k_Hp_countOn_7 N κ n (nI b) (nI c) (nI i) u = κ (nI (c + cnF (fun s => ¬ u 3 s = 0) i d)) u := by
  have e8 : (nI b + 1) * 8 = nI (8 * b + 8) := by
    rw [nI_1, show nI (b + 1) * 8 = nI ((b + 1) * 8) from pk_mul (b + 1) 8]
    congr 1
    omega
  intro d
  induction d with
  | zero =>
    intro i n c hi hn
    obtain ⟨n, rfl, hn⟩ := succ_of hn
    rw [k_Hp_countOn_7, e8, if_pos (nI_le (by omega) (by omega))]
    rfl
  | succ d ih =>
    intro i n c hi hn
    obtain ⟨n, rfl, hn⟩ := succ_of hn
    rw [k_Hp_countOn_7, e8, if_neg (nI_ge (by omega) (by omega)), isTaken_eq (by omega), bd_some, nI_1, nI_1]
    by_cases h : u 3 i = 0
    · rw [if_pos h, if_pos rfl, ih (i + 1) n c (by omega) (by omega), cnF, if_neg (fun z => z h), Nat.zero_add]
    · rw [if_neg h, if_neg (by decide), ih (i + 1) n (c + 1) (by omega) (by omega), cnF, if_pos h, Nat.add_assoc]
theorem countOn_eq {N b : Nat} {u : Mem} (hN : 600 ≤ N) (hb : b < 3) : f_Hp_countOn N (nI b) u = some (nI (cnF (fun s => ¬ u 3 s = 0) (8 * b) 8), u) := by
  unfold f_Hp_countOn
  have h := countOn_loop (N := N) (κ := fun x v => some (x, v)) (u := u) hb 8 (8 * b) N 0 rfl (by omega)
  rw [Nat.zero_add] at h
  rw [show nI b * 8 = nI (8 * b) from by rw [show nI b * 8 = nI (b * 8) from pk_mul b 8, Nat.mul_comm]]
  exact h
theorem objects_loop {N M b : Nat} {κ : Int32 → Mem → Rs} {u : Mem} (hM : u 15 1 = nI M) (hM2 : M ≤ 512) : ∀ (d i n c : Nat), i + d = M + 1 → d < n → k_Md_objects_15 N κ n (nI b) (nI c) (nI i) u = κ (nI (c + cnF (fun k => u 16 k = nI b) i d)) u := by
  intro d
  induction d with
  | zero =>
    intro i n c hi hn
    obtain ⟨n, rfl, hn⟩ := succ_of hn
    rw [k_Md_objects_15, hM, if_pos (nI_lt (by omega) (by omega))]
    rfl
  | succ d ih =>
    intro i n c hi hn
    obtain ⟨n, rfl, hn⟩ := succ_of hn
    rw [k_Md_objects_15, hM, if_neg (nI_nlt (by omega) (by omega)), gdN (by omega) (by omega), nI_clamp (by omega), nI_1, nI_1]
    by_cases h : u 16 i = nI b
    · rw [if_pos h, ih (i + 1) n (c + 1) (by omega) (by omega), cnF, if_pos h, Nat.add_assoc]
    · rw [if_neg h, ih (i + 1) n c (by omega) (by omega), cnF, if_neg h, Nat.zero_add]
theorem objects_eq {N M b : Nat} {u : Mem} (hN : 600 ≤ N) (hM : u 15 1 = nI M) (hM2 : M ≤ 512) (hb : b < 3) : f_Md_objects N (nI b) u = some (nI (cnF (fun k => u 16 k = nI b) 1 M), u) := by
  unfold f_Md_objects
  rw [within_t (n := 3) (by decide) hb (by omega), bd_some, if_neg (by decide)]
  have h := objects_loop (N := N) (b := b) (κ := fun x v => some (x, v)) (u := u) hM hM2 M 1 N 0 (by omega) (by omega)
  rw [Nat.zero_add] at h
  exact h
