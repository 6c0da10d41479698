/-! Pure: the reference's value of an exit is the class's; the messages are the same. -/
theorem vm_link {c t M S X b N k' : Nat} {u w1 m : Mem} {B : Nat → Int32} {V : Int32 → Int32} (hN : 600 ≤ N) (h : SA c t M S X u) (hb : b < 3) (hk1 : 1 ≤ k') (hk2 : k' ≤ M) (w0 : w1 0 7 = nI (t + 1)) (w1' : w1 1 = u 1) (w4 : w1 4 = u 4) (hz : ∀ j, 8 * b ≤ j → j < 8 * b + 8 → u 3 j = 0 → w1 14 j = -1) (hB : ∀ j k, 8 * b ≤ j → j < 8 * b + 8 → 1 ≤ k → k ≤ M → u 3 j = nI k → w1 14 j = B k) (hBok : ∀ k, 1 ≤ k → k ≤ M → B k = -1 ∨ (0 ≤ (B k).toInt ∧ (B k).toInt ≤ ((t + 1 : Nat) : Int))) (hV : ∀ o, gvC w1 b o (V o)) (hge : ∀ j, 8 * b ≤ j → j < 8 * b + 8 → -1 ≤ (w1 14 j).toInt)
    (m0 : m 15 0 = nI (t + 1)) (m1 : m 15 1 = nI M) (m18 : m 18 = u 18) (m19 : m 19 = u 19) (m24 : ∀ k, 1 ≤ k → k ≤ M → m 24 k = B k) (m16 : ∀ k, 1 ≤ k → k ≤ M → m 16 k = if u 16 k = nI b ∧ ¬ 0 ≤ B k then -1 else u 16 k) : f_Md_reaches N (nI b) (nI k') m = some (V (nI k'), m) := by
  obtain ⟨⟨⟨c1, c2, c3, c4, c5⟩, e1, e2, e3, e4, e5, e6, e7, e8⟩, hR, hL, hQ, ⟨d3, h1, h2, h3, h4, h5, h6⟩, hX⟩ := h
  obtain ⟨v0, v, a1, a2, a3, a4, a5⟩ := reaches_eq (N := N) (o := nI k') (m := m) hN hb m1 (by omega)
  have et : (nI (t + 1)).toInt = ((t + 1 : Nat) : Int) := nI_toInt (by omega)
  have Bm : ∀ k, 1 ≤ k → k ≤ M → -1 ≤ (B k).toInt ∧ (B k).toInt ≤ ((t + 1 : Nat) : Int) := by
    intro k q1 q2
    rcases hBok k q1 q2 with z | z
    · rw [z, m1_ti]; omega
    · omega
  have hrr : hrt m 19 b (nI k') ↔ hrt w1 1 b (nI k') := by
    unfold hrt
    rw [m19, w1', hR _ (by omega), hR _ (by omega), hR _ (by omega)]
  have key : gvC w1 b (nI k') v := by
    rcases a2 with ⟨q1, q2⟩ | ⟨q1, q2⟩
    · refine Or.inl ⟨hrr.mp q1, ?_⟩
      rw [w0]
      rw [q2, m0] at a3 a5
      rcases a5 with a5 | ⟨k, r1, r2, r3, r4⟩
      · exact a5
      · rw [ti_eq, et]
        rw [et] at a3
        have := (Bm k r1 r2).2
        rw [r4, m24 k r1 r2] at a3 ⊢
        omega
    · refine Or.inr ⟨fun z => q1 (hrr.mpr z), by rw [q2, m1_ti] at a3; exact a3, fun j j1 j2 j3 => ?_, ?_⟩
      · have hne : ¬ u 3 j = 0 := by
          intro z
          obtain ⟨-, f1, f2⟩ := h4 j (by omega) z
          unfold hC at j3
          rw [w4, f1, f2] at j3
          rcases j3 with j3 | j3
          · exact nI_ne0 (by omega) (by omega) j3.symm
          · exact nI_ne0 (by omega) (by omega) j3.symm
        obtain ⟨k, k1, k2⟩ := h1 j (by omega)
        have kp : 1 ≤ k := by
          rcases Nat.eq_zero_or_pos k with z | z
          · rw [z] at k2; exact absurd k2 hne
          · exact z
        obtain ⟨g1, g2, g3, g4⟩ := h2 j k (by omega) kp k1 k2
        rw [hB j k j1 j2 kp k1 k2]
        by_cases hneg : 0 ≤ B k
        · rw [← m24 k kp k1]
          refine a4 k kp k1 ⟨?_, ?_⟩
          · rw [m16 k kp k1, if_neg (fun z => z.2 hneg), g1]
            congr 1
            omega
          · unfold hC at j3
            rw [w4] at j3
            rw [m18, g3, g4]
            exact j3
        · have : B k = -1 := (hBok k kp k1).elim id (fun z => absurd (ti0'.mpr z.1) hneg)
          rw [this, m1_ti]
          rw [q2, m1_ti] at a3
          exact a3
      · rw [q2] at a5
        rcases a5 with a5 | ⟨k, r1, r2, r3, r4⟩
        · exact Or.inl a5
        · right
          have hob : u 16 k = nI b ∧ ¬ (u 16 k = nI b ∧ ¬ 0 ≤ B k) := by
            have := r3.1
            rw [m16 k r1 r2] at this
            by_cases z : u 16 k = nI b ∧ ¬ 0 ≤ B k
            · rw [if_pos z] at this
              exact absurd this.symm (m1_ne (by omega))
            · rw [if_neg z] at this
              exact ⟨this, z⟩
          rcases h3 k r1 r2 with z | ⟨j, j1, j2⟩
          · rw [hob.1] at z
            exact absurd z (m1_ne (by omega))
          · obtain ⟨g1, g2, g3, g4⟩ := h2 j k j1 r1 r2 j2
            rw [hob.1] at g1
            have jb := nI_inj g1 (by omega) (by omega)
            refine ⟨j, by omega, by omega, ?_, ?_⟩
            · unfold hC
              have := r3.2
              rw [m18, g3, g4] at this
              rw [w4]
              exact this
            · rw [r4, m24 k r1 r2, hB j k (by omega) (by omega) r1 r2 j2]
  rw [a1, gvC_one hge key (hV (nI k'))]
/-- ascending lists with the same members are the same -/
theorem asc_ext {α : Type} (f : α → Int) : ∀ (l l' : List α), l.Pairwise (fun a c => f a < f c) → l'.Pairwise (fun a c => f a < f c) → (∀ a, a ∈ l ↔ a ∈ l') → l = l' := by
  intro l
  induction l with
  | nil =>
    intro l' _ _ h
    cases l' with
    | nil => rfl
    | cons a l' => exact absurd ((h a).mpr List.mem_cons_self) List.not_mem_nil
  | cons x l ih =>
    intro l' hp hp' h
    cases l' with
    | nil => exact absurd ((h x).mp List.mem_cons_self) List.not_mem_nil
    | cons y l' =>
      rw [List.pairwise_cons] at hp hp'
      have hxy : x = y := by
        rcases List.mem_cons.mp ((h x).mp List.mem_cons_self) with e | e
        · exact e
        · rcases List.mem_cons.mp ((h y).mpr List.mem_cons_self) with e' | e'
          · exact e'.symm
          · have a1 := hp'.1 x e
            have a2 := hp.1 y e'
            omega
      subst hxy
      congr 1
      refine ih l' hp.2 hp'.2 (fun a => ⟨fun ha => ?_, fun ha => ?_⟩)
      · rcases List.mem_cons.mp ((h a).mp (List.mem_cons_of_mem _ ha)) with e | e
        · have := hp.1 a ha
          rw [e] at this
          omega
        · exact e
      · rcases List.mem_cons.mp ((h a).mpr (List.mem_cons_of_mem _ ha)) with e | e
        · have := hp'.1 a ha
          rw [e] at this
          omega
        · exact e
/-- the rows of a memory, as a list -/
def rowsL (u : Mem) (X : Nat) : List (Int32 × Int32 × Int32) := (List.range X).map (fun i => (u 7 i, u 8 i, u 9 i))
theorem rowsL_at {u : Mem} {X i : Nat} {r : Int32 × Int32 × Int32} (h : (rowsL u X)[i]? = some r) : i < X ∧ r = (u 7 i, u 8 i, u 9 i) := by
  unfold rowsL at h
  rw [List.getElem?_map] at h
  cases hi : (List.range X)[i]? with
  | none => rw [hi] at h; cases h
  | some j =>
    rw [hi] at h
    rw [List.getElem?_eq_some_iff] at hi
    obtain ⟨q1, q2⟩ := hi
    rw [List.getElem_range] at q2
    subst q2
    cases h
    rw [List.length_range] at q1
    exact ⟨q1, rfl⟩
theorem rowsL_mem {u : Mem} {X : Nat} {r : Int32 × Int32 × Int32} : r ∈ rowsL u X ↔ ∃ i, i < X ∧ r = (u 7 i, u 8 i, u 9 i) := by
  unfold rowsL
  rw [List.mem_map]
  constructor
  · rintro ⟨i, h1, h2⟩
    exact ⟨i, List.mem_range.mp h1, h2.symm⟩
  · rintro ⟨i, h1, h2⟩
    exact ⟨i, List.mem_range.mpr h1, h2.symm⟩
theorem rowsL_len {u : Mem} {X : Nat} : (rowsL u X).length = X := by
  unfold rowsL
  rw [List.length_map, List.length_range]
theorem rowsL_Rw {u : Mem} {X : Nat} (h : u 6 3 = nI X) (h2 : X ≤ 105) : Rw u (rowsL u X) := by
  refine ⟨by rw [rowsL_len]; exact h2, by rw [rowsL_len]; exact h, fun i r hr => ?_⟩
  obtain ⟨-, rfl⟩ := rowsL_at hr
  exact ⟨rfl, rfl, rfl⟩
theorem rowsL_pw {c t M S X : Nat} {u : Mem} (h : SA c t M S X u) : (rowsL u X).Pairwise (fun r r' => r.2.1.toInt ≤ r'.2.1.toInt ∧ ¬ (r.1 = r'.1 ∧ r.2.1 = r'.2.1)) := by
  obtain ⟨x1, x2, x3, x4, x5⟩ := h.2.2.2.2.2
  rw [List.pairwise_iff_getElem]
  intro i j hi hj hij
  obtain ⟨i1, ei⟩ := rowsL_at (List.getElem?_eq_getElem hi)
  obtain ⟨j1, ej⟩ := rowsL_at (List.getElem?_eq_getElem hj)
  rw [ei, ej]
  refine ⟨x2 i j hij j1, fun z => ?_⟩
  have := x3 i j i1 j1 z.1 z.2
  omega
theorem msgs_same {c t M S X b : Nat} {u : Mem} {V : Int32 → Int32} (h : SA c t M S X u) (hb : b < 3) : ((rowsL u X).filter (keepB b V)).filterMap (msB b V) = (List.range' 1 M).filterMap (msM b (fun k => V (nI k)) (fun k => u 20 (3 * k + b))) := by
  have hM := h.1.1
  obtain ⟨x1, x2, x3, x4, x5⟩ := h.2.2.2.2.2
  refine asc_ext (fun q => q.2.1.toInt) _ _ ?_ ?_ (fun q => ?_)
  · refine List.Pairwise.filterMap (R := fun r r' => r.2.1.toInt ≤ r'.2.1.toInt ∧ ¬ (r.1 = r'.1 ∧ r.2.1 = r'.2.1)) (msB b V) ?_ ((rowsL_pw h).filter _)
    intro r r' hr m hm m' hm'
    unfold msB at hm hm'
    split at hm
    · rename_i g
      split at hm'
      · rename_i g'
        cases hm; cases hm'
        have h1 := hr.1
        have h2 : ¬ r.2.1.toInt = r'.2.1.toInt := fun z => hr.2 ⟨g.1.trans g'.1.symm, ti_eq.mpr z⟩
        show r.2.1.toInt < r'.2.1.toInt
        omega
      · cases hm'
    · cases hm
  · refine List.Pairwise.filterMap (R := fun a c => a < c ∧ c ≤ M) (msM b _ _) ?_ ?_
    · intro k k' hk m hm m' hm'
      unfold msM at hm hm'
      split at hm
      · split at hm'
        · cases hm; cases hm'
          show (nI k).toInt < (nI k').toInt
          rw [nI_toInt (by omega), nI_toInt (by omega)]
          omega
        · cases hm'
      · cases hm
    · rw [List.pairwise_iff_getElem]
      intro i j hi hj hij
      rw [List.getElem_range', List.getElem_range']
      rw [List.length_range'] at hi hj
      omega
  · rw [List.mem_filterMap, List.mem_filterMap]
    constructor
    · rintro ⟨r, hr, hm⟩
      rw [List.mem_filter] at hr
      obtain ⟨i, i1, ei⟩ := rowsL_mem.mp hr.1
      obtain ⟨b', k, q1, q2, q3, q4, q5, q6, q7, q8, -⟩ := x1 i i1
      unfold msB at hm
      split at hm
      · rename_i g
        rw [ei] at g hm
        simp only at g hm
        have eb : b' = b := nI_inj (q4.symm.trans g.1) (by omega) (by omega)
        subst eb
        refine ⟨k, ?_, ?_⟩
        · rw [List.mem_range'_1]
          omega
        · unfold msM
          rw [if_pos (show ¬ u 20 (3 * k + b') ≤ 0 ∧ ¬ V (nI k) ≤ u 20 (3 * k + b') from ⟨by rw [q6, ti0]; omega, by rw [q6, ← q5]; exact g.2⟩)]
          dsimp only
          rw [q6, ← hm, q4, q5]
      · cases hm
    · rintro ⟨k, hk, hm⟩
      rw [List.mem_range'_1] at hk
      unfold msM at hm
      split at hm
      · rename_i g
        rcases x4 b k hb (by omega) with ⟨i, i1, i2, i3⟩ | z
        · obtain ⟨b', k2, q1, q2, q3, q4, q5, q6, q7, q8, -⟩ := x1 i i1
          have eb : b' = b := nI_inj (q4.symm.trans i2) (by omega) (by omega)
          have ek : k2 = k := nI_inj (q5.symm.trans i3) (by omega) (by omega)
          subst eb; subst ek
          have hVle : ¬ V (u 8 i) ≤ u 9 i := by rw [q5, ← q6]; exact g.2
          refine ⟨(u 7 i, u 8 i, u 9 i), ?_, ?_⟩
          · rw [List.mem_filter]
            refine ⟨rowsL_mem.mpr ⟨i, i1, rfl⟩, ?_⟩
            unfold keepB
            have : ¬ V (u 8 i) = -1 := by
              intro z
              rw [z, ti_le, m1_ti] at hVle
              omega
            simp [this]
          · unfold msB
            rw [if_pos ⟨i2, hVle⟩, ← hm]
            dsimp only
            rw [q6, q4, q5]
        · exact absurd (ti0.mpr z) g.1
      · cases hm
