/-! Pure: the relation behind carry and arrive. -/
def nwE (e x : Int32) : Int32 := if e = -1 then x else if x ≤ e then e else x
def nwL (l e x th : Int32) : Int32 := if e = -1 then imn l th else if x ≤ e then l else imn l e
theorem tailC_rd (v : Mem) (s q j : Nat) : tailC v s q j = if q = 5 then (if j = s then nwE (v 5 s) (v 0 7) else v 5 j) else if q = 13 then (if j = s / 8 then nwL (v 13 (s / 8)) (v 5 s) (v 0 7) (v 0 8) else v 13 j) else v q j := by
  unfold tailC raiseC nwE nwL
  by_cases h1 : v 5 s = -1
  · simp only [if_pos h1, stM_rd]
    by_cases h5 : q = 5
    · subst h5; simp
    · by_cases h13 : q = 13
      · subst h13; simp
      · simp [h5, h13]
  · simp only [if_neg h1]
    by_cases h2 : v 0 7 ≤ v 5 s
    · simp only [if_pos h2]
      by_cases h5 : q = 5
      · subst h5
        by_cases e : j = s
        · subst e; simp
        · simp [e]
      · by_cases h13 : q = 13
        · subst h13
          by_cases e : j = s / 8
          · subst e; simp
          · simp [e]
        · simp [h5, h13]
    · simp only [if_neg h2, stM_rd]
      by_cases h5 : q = 5
      · subst h5; simp
      · by_cases h13 : q = 13
        · subst h13; simp
        · simp [h5, h13]
theorem tailM_rd (m : Mem) (k o q j : Nat) (hm : m 17 k < 0 ↔ m 17 k = -1) : tailM m k o q j = if q = 17 then (if j = k then nwE (m 17 k) (m 15 0) else m 17 j) else if q = 22 then (if j = o then nwL (m 22 o) (m 17 k) (m 15 0) (m 15 9) else m 22 j) else m q j := by
  unfold tailM raiseM nwE nwL
  by_cases h1 : m 17 k = -1
  · simp only [if_pos h1, if_pos (hm.mpr h1), stM_rd]
    by_cases h5 : q = 17
    · subst h5; simp
    · by_cases h13 : q = 22
      · subst h13; simp
      · simp [h5, h13]
  · simp only [if_neg h1, if_neg (fun z => h1 (hm.mp z))]
    by_cases h2 : m 15 0 ≤ m 17 k
    · simp only [if_pos h2]
      by_cases h5 : q = 17
      · subst h5
        by_cases e : j = k
        · subst e; simp
        · simp [e]
      · by_cases h13 : q = 22
        · subst h13
          by_cases e : j = o
          · subst e; simp
          · simp [e]
        · simp [h5, h13]
    · simp only [if_neg h2, stM_rd]
      by_cases h5 : q = 17
      · subst h5; simp
      · by_cases h13 : q = 22
        · subst h13; simp
        · simp [h5, h13]
theorem m1_iff {e : Int32} {t : Nat} (h : e = -1 ∨ (0 ≤ e.toInt ∧ e.toInt ≤ t)) : e < 0 ↔ e = -1 := by
  constructor
  · intro z
    rcases h with h | h
    · exact h
    · rw [ti_lt, show (0 : Int32).toInt = 0 by decide] at z
      omega
  · intro z; rw [z]; exact m1_lt
theorem m1_ti : (-1 : Int32).toInt = -1 := by decide
theorem nwE_ok {e : Int32} {t : Nat} (ht : t ≤ 512) (h : e = -1 ∨ (0 ≤ e.toInt ∧ e.toInt ≤ t)) : (0 ≤ (nwE e (nI t)).toInt ∧ (nwE e (nI t)).toInt ≤ t) ∧ e.toInt ≤ (nwE e (nI t)).toInt ∧ (t : Int) ≤ (nwE e (nI t)).toInt := by
  have e1 : (nI t).toInt = t := nI_toInt (by omega)
  unfold nwE
  by_cases h1 : e = -1
  · rw [if_pos h1, e1, h1, m1_ti]; omega
  · rw [if_neg h1]
    have h2 := h.elim (fun z => absurd z h1) id
    by_cases h3 : nI t ≤ e
    · rw [if_pos h3]
      rw [ti_le, e1] at h3
      omega
    · rw [if_neg h3]
      rw [ti_le, e1] at h3
      rw [e1]
      omega
/-- what carry and arrive have done, cell by cell -/
def CA (t k s b : Nat) (u z : Mem) : Prop := (∀ q, ¬ q = 5 → ¬ q = 6 → ¬ q = 7 → ¬ q = 8 → ¬ q = 9 → ¬ q = 13 → ¬ q = 17 → ¬ q = 20 → ¬ q = 22 → z q = u q) ∧
  (∀ j, z 5 j = if j = s then nwE (u 5 s) (nI t) else u 5 j) ∧ (∀ j, z 17 j = if j = k then nwE (u 5 s) (nI t) else u 17 j) ∧
  (∀ j, z 13 j = if j = s / 8 then nwL (u 13 (s / 8)) (u 5 s) (nI t) (u 0 8) else u 13 j) ∧ (∀ j, z 22 j = if j = s / 8 then nwL (u 13 (s / 8)) (u 5 s) (nI t) (u 0 8) else u 22 j) ∧
  ∀ j, z 20 j = if ¬ b = s / 8 ∧ j = 3 * k + b then nI t else u 20 j
def putX (u z : Mem) (X b k t X' : Nat) : Prop := (∃ r, r < X ∧ u 7 r = nI b ∧ u 8 r = nI k ∧ z 6 3 = u 6 3 ∧ z 7 = u 7 ∧ z 8 = u 8 ∧ (∀ j, z 9 j = if j = r then nI t else u 9 j) ∧ X' = X) ∨
  ((∀ j, j < X → ¬ (u 7 j = nI b ∧ u 8 j = nI k)) ∧ X' = X + 1 ∧ ∃ p, p ≤ X ∧ z 6 3 = nI (X + 1) ∧ (∀ c, (c = 7 ∨ c = 8 ∨ c = 9) → (∀ i, i < p → z c i = u c i) ∧ ∀ i, p < i → i ≤ X → z c i = u c (i - 1)) ∧ z 7 p = nI b ∧ z 8 p = nI k ∧ z 9 p = nI t ∧ (∀ i, p ≤ i → i < X → (nI k).toInt < (u 8 i).toInt) ∧ (0 < p → (u 8 (p - 1)).toInt ≤ (nI k).toInt))
theorem ca_of {c t M S X X' k s b : Nat} {u v w m z : Mem} (h : SA c t M S X u) (hs : s < 24) (hk : 1 ≤ k) (hk2 : k ≤ M) (h3 : u 3 s = nI k) (hv : ∀ q, q < 15 → v q = u q) (hm : ∀ q, 15 ≤ q → m q = u q) (hcar : carR v w X s b (nI k) X') (hz1 : ∀ q, q < 15 → z q = w q) (hz2 : ∀ q, 15 ≤ q → z q = arrM m k (s / 8) b q) :
    CA t k s b u z ∧ ((b = s / 8 ∧ X' = X ∧ z 6 = u 6 ∧ z 7 = u 7 ∧ z 8 = u 8 ∧ z 9 = u 9) ∨ (¬ b = s / 8 ∧ putX u z X b k t X')) := by
  obtain ⟨⟨⟨c1, c2, c3, c4, c5⟩, e1, e2, e3, e4, e5, e6, e7, e8⟩, -, hL, -, ⟨d3, h1, h2, h4, h5, h6, h7⟩, -⟩ := h
  obtain ⟨v1, hv1, rfl⟩ := hcar
  have k17 := (h2 s k hs hk hk2 h3).2.1
  have ho : s / 8 < 3 := by omega
  have l22 := (hL (s / 8) ho).2.1
  have f1 : ∀ q, ¬ q = 6 → ¬ q = 7 → ¬ q = 8 → ¬ q = 9 → v1 q = v q := by
    intro q a6 a7 a8 a9
    rcases hv1 with ⟨-, e, -⟩ | ⟨-, e⟩
    · rw [e]
    · exact e.oth a6 a7 a8 a9
  have g5 : v1 5 = u 5 := (f1 5 (by decide) (by decide) (by decide) (by decide)).trans (hv 5 (by decide))
  have g13 : v1 13 = u 13 := (f1 13 (by decide) (by decide) (by decide) (by decide)).trans (hv 13 (by decide))
  have g0 : v1 0 = u 0 := (f1 0 (by decide) (by decide) (by decide) (by decide)).trans (hv 0 (by decide))
  have m17 := hm 17 (by decide)
  have m22 := hm 22 (by decide)
  have m15 := hm 15 (by decide)
  have m20 := hm 20 (by decide)
  have hc : ∀ q j, arrM m k (s / 8) b q j = if q = 17 then (if j = k then nwE (u 5 s) (nI t) else u 17 j) else if q = 22 then (if j = s / 8 then nwL (u 13 (s / 8)) (u 5 s) (nI t) (u 0 8) else u 22 j) else if q = 20 then (if ¬ b = s / 8 ∧ j = 3 * k + b then nI t else u 20 j) else m q j := by
    intro q j
    unfold arrM
    have hr : ∀ q, ¬ q = 20 → (if s / 8 = b then m else stM m 20 (3 * k + b) (m 15 0)) q = m q := by
      intro q hq
      split
      · rfl
      · exact stM_ne hq
    rw [tailM_rd _ _ _ _ _ (by rw [hr 17 (by decide), m17, k17]; exact m1_iff (h6 s hs)), hr 17 (by decide), hr 22 (by decide), hr 15 (by decide), m17, m22, m15, k17, e2, e8, l22]
    by_cases q1 : q = 17
    · rw [if_pos q1, if_pos q1]
    · rw [if_neg q1, if_neg q1]
      by_cases q2 : q = 22
      · rw [if_pos q2, if_pos q2]
      · rw [if_neg q2, if_neg q2]
        by_cases q3 : q = 20
        · rw [if_pos q3, q3]
          by_cases eb : s / 8 = b
          · rw [if_pos eb, if_neg (fun z => z.1 eb.symm), m20]
          · rw [if_neg eb, stM_rs, m20]
            by_cases ej : j = 3 * k + b
            · rw [if_pos ej, if_pos ⟨fun z => eb z.symm, ej⟩]
            · rw [if_neg ej, if_neg (fun z => ej z.2)]
        · rw [if_neg q3]
          split
          · rfl
          · rw [stM_ne q3]
  refine ⟨⟨fun q a5 a6 a7 a8 a9 a13 a17 a20 a22 => ?_, fun j => ?_, fun j => ?_, fun j => ?_, fun j => ?_, fun j => ?_⟩, ?_⟩
  · by_cases hq : q < 15
    · rw [hz1 q hq]
      funext j
      rw [tailC_rd, if_neg a5, if_neg a13, f1 q a6 a7 a8 a9, hv q hq]
    · rw [hz2 q (by omega)]
      funext j
      rw [hc, if_neg a17, if_neg a22, if_neg a20, hm q (by omega)]
  · rw [hz1 5 (by decide), tailC_rd, if_pos rfl, g5, g0, e1]
  · rw [hz2 17 (by decide), hc, if_pos rfl]
  · rw [hz1 13 (by decide), tailC_rd, if_neg (by decide), if_pos rfl, g13, g5, g0, e1]
  · rw [hz2 22 (by decide), hc, if_neg (by decide), if_pos rfl]
  · rw [hz2 20 (by decide), hc, if_neg (by decide), if_neg (by decide), if_pos rfl]
  · have t1 : ∀ q, ¬ q = 5 → ¬ q = 13 → q < 15 → z q = v1 q := by
      intro q a5 a13 hq
      rw [hz1 q hq]
      funext j
      rw [tailC_rd, if_neg a5, if_neg a13]
    rcases hv1 with ⟨eb, e, eX⟩ | ⟨eb, hp⟩
    · left
      refine ⟨eb, eX, ?_, ?_, ?_, ?_⟩
      · rw [t1 6 (by decide) (by decide) (by decide), e, hv 6 (by decide)]
      · rw [t1 7 (by decide) (by decide) (by decide), e, hv 7 (by decide)]
      · rw [t1 8 (by decide) (by decide) (by decide), e, hv 8 (by decide)]
      · rw [t1 9 (by decide) (by decide) (by decide), e, hv 9 (by decide)]
    · right
      refine ⟨eb, ?_⟩
      have z6 := t1 6 (by decide) (by decide) (by decide)
      have z7 := t1 7 (by decide) (by decide) (by decide)
      have z8 := t1 8 (by decide) (by decide) (by decide)
      have z9 := t1 9 (by decide) (by decide) (by decide)
      have v6 := hv 6 (by decide)
      have v7 := hv 7 (by decide)
      have v8 := hv 8 (by decide)
      have v9 := hv 9 (by decide)
      have v0 := hv 0 (by decide)
      rcases hp with ⟨r, r1, r2, r3, r4, r5⟩ | ⟨hno, hX', p, p1, p2, p3, p4⟩
      · left
        refine ⟨r, r1, by rw [← v7]; exact r2, by rw [← v8]; exact r3, ?_, ?_, ?_, fun j => ?_, r5⟩
        · rw [z6, r4, stM_ne (by decide), v6]
        · rw [z7, r4, stM_ne (by decide), v7]
        · rw [z8, r4, stM_ne (by decide), v8]
        · rw [z9, r4, stM_rs, v0, e1, v9]
      · right
        obtain ⟨i1, i2, i3, i4, i5, i6⟩ := p2
        refine ⟨fun j hj => by rw [← v7, ← v8]; exact hno j hj, hX', p, p1, by rw [z6]; exact i2, fun c hc => ?_, by rw [z7]; exact i4, by rw [z8]; exact i5, by rw [z9, i6, v0, e1], fun i a b => by rw [← v8]; exact p3 i a b, fun a => by rw [← v8]; exact p4 a⟩
        have zc : z c = v1 c := by rcases hc with rfl | rfl | rfl <;> assumption
        have vc : v c = u c := by rcases hc with rfl | rfl | rfl <;> assumption
        rw [zc, ← vc]
        exact i3 c hc
theorem ca_h {c t M S X k s b : Nat} {u z : Mem} (h : SA c t M S X u) (hs : s < 24) (hk : 1 ≤ k) (hk2 : k ≤ M) (h3 : u 3 s = nI k) (ca : CA t k s b u z) : SH M t z := by
  obtain ⟨⟨⟨c1, c2, c3, c4, c5⟩, e1, e2, e3, e4, e5, e6, e7, e8⟩, -, hL, -, ⟨d3, h1, h2, h4, h5, h6, h7⟩, -⟩ := h
  obtain ⟨a0, a5, a17, a13, a22, a20⟩ := ca
  have z3 : z 3 = u 3 := a0 3 (by decide) (by decide) (by decide) (by decide) (by decide) (by decide) (by decide) (by decide) (by decide)
  have z4 : z 4 = u 4 := a0 4 (by decide) (by decide) (by decide) (by decide) (by decide) (by decide) (by decide) (by decide) (by decide)
  have z16 : z 16 = u 16 := a0 16 (by decide) (by decide) (by decide) (by decide) (by decide) (by decide) (by decide) (by decide) (by decide)
  have z18 : z 18 = u 18 := a0 18 (by decide) (by decide) (by decide) (by decide) (by decide) (by decide) (by decide) (by decide) (by decide)
  refine ⟨?_, ?_, ?_, ?_, ?_, ?_, ?_⟩
  · unfold dist3; rw [z3]; exact d3
  · rw [z3]; exact h1
  · intro s' k' q1 q2 q3 q4
    rw [z3] at q4
    obtain ⟨g1, g2, g3, g4⟩ := h2 s' k' q1 q2 q3 q4
    refine ⟨by rw [z16]; exact g1, ?_, by rw [z18, z4]; exact g3, by rw [z18, z4]; exact g4⟩
    rw [a17, a5]
    by_cases e : s' = s
    · subst e
      have ek : k' = k := nI_inj (q4.symm.trans h3) (by omega) (by omega)
      rw [if_pos ek, if_pos rfl]
    · have ek : ¬ k' = k := by
        intro z
        rw [z] at q4
        exact e (d3 s' s q1 hs (q4.trans h3.symm) (by rw [q4]; exact nI_ne0 (by omega) (by omega)))
      rw [if_neg ek, if_neg e]
      exact g2
  · intro k' q1 q2
    rw [z16, z3]
    exact h4 k' q1 q2
  · intro s' q1 q2
    rw [z3] at q2
    obtain ⟨g1, g2, g3⟩ := h5 s' q1 q2
    have e : ¬ s' = s := by
      intro z
      rw [z, h3] at q2
      exact nI_ne0 (by omega) (by omega) q2
    refine ⟨?_, by rw [z4]; exact g2, by rw [z4]; exact g3⟩
    rw [a5, if_neg e]
    exact g1
  · intro s' q1
    rw [a5]
    by_cases e : s' = s
    · rw [if_pos e]
      exact Or.inr (nwE_ok (by omega) (h6 s hs)).1
    · rw [if_neg e]
      exact h6 s' q1
  · intro k' q1 q2
    rw [z18]
    exact h7 k' q1 q2
theorem ca_ge {c t M S X k s b j : Nat} {u z : Mem} (h : SA c t M S X u) (hs : s < 24) (hj : j < 24) (ca : CA t k s b u z) : (u 5 j).toInt ≤ (z 5 j).toInt := by
  have hM := h.1.1
  rw [ca.2.1]
  by_cases e : j = s
  · rw [if_pos e, e]
    exact (nwE_ok (by omega) (h.2.2.2.2.1.2.2.2.2.2.1 s hs)).2.1
  · rw [if_neg e]
    exact Int.le_refl _
theorem ca_x1 {c t M S X k s b : Nat} {u z : Mem} (h : SA c t M S X u) (hs : s < 24) (hb : b < 3) (ca : CA t k s b u z) (eb : b = s / 8) (z7 : z 7 = u 7) (z8 : z 8 = u 8) (z9 : z 9 = u 9) : SX M t X z := by
  obtain ⟨x1, x2, x3, x4, x5⟩ := id h.2.2.2.2.2
  have z12 : z 12 = u 12 := ca.1 12 (by decide) (by decide) (by decide) (by decide) (by decide) (by decide) (by decide) (by decide) (by decide)
  have z3 : z 3 = u 3 := ca.1 3 (by decide) (by decide) (by decide) (by decide) (by decide) (by decide) (by decide) (by decide) (by decide)
  have z20 : z 20 = u 20 := by
    funext j
    rw [ca.2.2.2.2.2, if_neg (fun q => q.1 eb)]
  refine ⟨fun i hi => ?_, by rw [z8]; exact x2, by unfold uniq78; rw [z7, z8]; exact x3, by rw [z7, z8, z20]; exact x4, by rw [z7, z9, z12]; exact x5⟩
  obtain ⟨b', k', q1, q2, q3, q4, q5, q6, q7, q8, q9⟩ := x1 i hi
  refine ⟨b', k', q1, q2, q3, by rw [z7]; exact q4, by rw [z8]; exact q5, by rw [z20, z9]; exact q6, by rw [z9]; exact q7, by rw [z9]; exact q8, fun q => ?_⟩
  rw [z12, z9] at q
  obtain ⟨s', r1, r2, r3, r4⟩ := q9 q
  refine ⟨s', r1, by rw [z3]; exact r2, r3, ?_⟩
  rw [z9]
  exact Int.le_trans r4 (ca_ge h hs r1 ca)
theorem ca_x2 {c t M S X k s b r : Nat} {u z : Mem} (h : SA c t M S X u) (hlt : ∀ n, n < 3 → (u 12 n).toInt < t) (hs : s < 24) (hk : 1 ≤ k) (hk2 : k ≤ M) (h3 : u 3 s = nI k) (hb : b < 3) (ca : CA t k s b u z) (eb : ¬ b = s / 8) (r1 : r < X) (r7 : u 7 r = nI b) (r8 : u 8 r = nI k) (z7 : z 7 = u 7) (z8 : z 8 = u 8) (z9 : ∀ j, z 9 j = if j = r then nI t else u 9 j) : SX M t X z := by
  have hM := h.1.1
  have l0 := (h.2.2.1 b hb).2.2.1
  have l1 := hlt b hb
  obtain ⟨x1, x2, x3, x4, x5⟩ := id h.2.2.2.2.2
  have z12 : z 12 = u 12 := ca.1 12 (by decide) (by decide) (by decide) (by decide) (by decide) (by decide) (by decide) (by decide) (by decide)
  have z3 : z 3 = u 3 := ca.1 3 (by decide) (by decide) (by decide) (by decide) (by decide) (by decide) (by decide) (by decide) (by decide)
  have z20 := ca.2.2.2.2.2
  have et : (nI t).toInt = t := nI_toInt (by omega)
  have h6 := h.2.2.2.2.1.2.2.2.2.2.1 s hs
  refine ⟨fun i hi => ?_, by rw [z8]; exact x2, by unfold uniq78; rw [z7, z8]; exact x3, fun b' k' q1 q2 => ?_, fun b' q1 => ?_⟩
  · by_cases e : i = r
    · subst e
      refine ⟨b, k, hb, hk, hk2, by rw [z7]; exact r7, by rw [z8]; exact r8, ?_, ?_, ?_, fun _ => ⟨s, hs, by rw [z3]; exact h3, fun q => eb q.symm, ?_⟩⟩
      · rw [z20, if_pos ⟨eb, rfl⟩, z9, if_pos rfl]
      · rw [z9, if_pos rfl, et]; omega
      · rw [z9, if_pos rfl, et]; exact Int.le_refl _
      · rw [z9, if_pos rfl, et, ca.2.1, if_pos rfl]
        exact (nwE_ok (by omega) h6).2.2
    · obtain ⟨b', k', q1, q2, q3, q4, q5, q6, q7, q8, q9⟩ := x1 i hi
      have hne : ¬ (3 * k' + b' = 3 * k + b) := by
        intro q
        have ek : k' = k := by omega
        have ebb : b' = b := by omega
        subst ek; subst ebb
        exact e (x3 i r hi r1 (q4.trans r7.symm) (q5.trans r8.symm))
      have zi : z 9 i = u 9 i := by rw [z9, if_neg e]
      refine ⟨b', k', q1, q2, q3, by rw [z7]; exact q4, by rw [z8]; exact q5, by rw [z20, if_neg (fun q => hne q.2), zi]; exact q6, by rw [zi]; exact q7, by rw [zi]; exact q8, fun q => ?_⟩
      rw [z12, zi] at q
      obtain ⟨s', g1, g2, g3, g4⟩ := q9 q
      refine ⟨s', g1, by rw [z3]; exact g2, g3, ?_⟩
      rw [zi]
      exact Int.le_trans g4 (ca_ge h hs g1 ca)
  · rw [z7, z8, z20]
    rcases x4 b' k' q1 q2 with q | q
    · exact Or.inl q
    · by_cases e : 3 * k' + b' = 3 * k + b
      · left
        have ek : k' = k := by omega
        have ebb : b' = b := by omega
        subst ek; subst ebb
        exact ⟨r, r1, r7, r8⟩
      · right
        rw [if_neg (fun z => e z.2)]
        exact q
  · refine Nat.le_trans (cnF_mono (fun i _ i2 q => ?_)) (x5 b' q1)
    obtain ⟨g1, g2⟩ := q
    rw [z7] at g1
    rw [z12, z9] at g2
    by_cases e : i = r
    · rw [if_pos e, et] at g2
      have := hlt b' q1
      omega
    · rw [if_neg e] at g2
      exact ⟨g1, g2⟩
theorem ca_x3 {c t M S X k s b p : Nat} {u z : Mem} (h : SA c t M S X u) (hlt : ∀ n, n < 3 → (u 12 n).toInt < t) (hs : s < 24) (hk : 1 ≤ k) (hk2 : k ≤ M) (h3 : u 3 s = nI k) (hb : b < 3) (ca : CA t k s b u z) (eb : ¬ b = s / 8) (hno : ∀ j, j < X → ¬ (u 7 j = nI b ∧ u 8 j = nI k)) (p1 : p ≤ X) (hc : ∀ c, (c = 7 ∨ c = 8 ∨ c = 9) → (∀ i, i < p → z c i = u c i) ∧ ∀ i, p < i → i ≤ X → z c i = u c (i - 1)) (p7 : z 7 p = nI b) (p8 : z 8 p = nI k) (p9 : z 9 p = nI t) (hhi : ∀ i, p ≤ i → i < X → (nI k).toInt < (u 8 i).toInt) (hlo : 0 < p → (u 8 (p - 1)).toInt ≤ (nI k).toInt) : SX M t (X + 1) z := by
  have hM := h.1.1
  have l0 := (h.2.2.1 b hb).2.2.1
  have l1 := hlt b hb
  obtain ⟨x1, x2, x3, x4, x5⟩ := id h.2.2.2.2.2
  have z12 : z 12 = u 12 := ca.1 12 (by decide) (by decide) (by decide) (by decide) (by decide) (by decide) (by decide) (by decide) (by decide)
  have z3 : z 3 = u 3 := ca.1 3 (by decide) (by decide) (by decide) (by decide) (by decide) (by decide) (by decide) (by decide) (by decide)
  have z20 := ca.2.2.2.2.2
  have et : (nI t).toInt = t := nI_toInt (by omega)
  have h6 := h.2.2.2.2.1.2.2.2.2.2.1 s hs
  obtain ⟨sh, hsh⟩ : ∃ sh : Nat → Nat, ∀ i, sh i = if i < p then i else i - 1 := ⟨_, fun _ => rfl⟩
  have shl : ∀ i, i < X + 1 → ¬ i = p → sh i < X := by
    intro i h1 h2
    rw [hsh]
    split <;> omega
  have zr : ∀ c, (c = 7 ∨ c = 8 ∨ c = 9) → ∀ i, i < X + 1 → ¬ i = p → z c i = u c (sh i) := by
    intro c hcc i h1 h2
    rw [hsh]
    by_cases e : i < p
    · rw [if_pos e]; exact (hc c hcc).1 i e
    · rw [if_neg e]; exact (hc c hcc).2 i (by omega) (by omega)
  have zr7 := zr 7 (Or.inl rfl)
  have zr8 := zr 8 (Or.inr (Or.inl rfl))
  have zr9 := zr 9 (Or.inr (Or.inr rfl))
  have inv : ∀ j, j < X → ∃ i, i < X + 1 ∧ ¬ i = p ∧ sh i = j := by
    intro j hj
    by_cases e : j < p
    · exact ⟨j, by omega, by omega, by rw [hsh, if_pos e]⟩
    · exact ⟨j + 1, by omega, by omega, by rw [hsh, if_neg (by omega)]; omega⟩
  refine ⟨fun i hi => ?_, fun i j hij hj => ?_, fun i j hi hj e7 e8 => ?_, fun b' k' q1 q2 => ?_, fun b' q1 => ?_⟩
  · by_cases e : i = p
    · subst e
      refine ⟨b, k, hb, hk, hk2, p7, p8, ?_, ?_, ?_, fun _ => ⟨s, hs, by rw [z3]; exact h3, fun q => eb q.symm, ?_⟩⟩
      · rw [z20, if_pos ⟨eb, rfl⟩, p9]
      · rw [p9, et]; omega
      · rw [p9, et]; exact Int.le_refl _
      · rw [p9, et, ca.2.1, if_pos rfl]
        exact (nwE_ok (by omega) h6).2.2
    · have hl := shl i hi e
      obtain ⟨b', k', q1, q2, q3, q4, q5, q6, q7, q8, q9⟩ := x1 (sh i) hl
      have hne : ¬ (3 * k' + b' = 3 * k + b) := by
        intro q
        have ek : k' = k := by omega
        have ebb : b' = b := by omega
        subst ek; subst ebb
        exact hno (sh i) hl ⟨q4, q5⟩
      have zi := zr9 i hi e
      refine ⟨b', k', q1, q2, q3, by rw [zr7 i hi e]; exact q4, by rw [zr8 i hi e]; exact q5, by rw [z20, if_neg (fun q => hne q.2), zi]; exact q6, by rw [zi]; exact q7, by rw [zi]; exact q8, fun q => ?_⟩
      rw [z12, zi] at q
      obtain ⟨s', g1, g2, g3, g4⟩ := q9 q
      refine ⟨s', g1, by rw [z3]; exact g2, g3, ?_⟩
      rw [zi]
      exact Int.le_trans g4 (ca_ge h hs g1 ca)
  · by_cases ei : i = p
    · rw [ei, p8, zr8 j hj (by omega)]
      have := hhi (sh j) (by rw [hsh]; split <;> omega) (shl j hj (by omega))
      omega
    · by_cases ej : j = p
      · rw [ej, p8, zr8 i (by omega) ei]
        have e1 : sh i = i := by rw [hsh, if_pos (by omega)]
        rw [e1]
        have a := hlo (by omega)
        by_cases e2 : i = p - 1
        · rw [e2]; exact a
        · have b := x2 i (p - 1) (by omega) (by omega)
          omega
      · rw [zr8 i (by omega) ei, zr8 j hj ej]
        refine x2 (sh i) (sh j) ?_ (shl j hj ej)
        rw [hsh, hsh]
        split <;> split <;> omega
  · by_cases ei : i = p
    · by_cases ej : j = p
      · omega
      · exfalso
        rw [ei, p7, zr7 j hj ej] at e7
        rw [ei, p8, zr8 j hj ej] at e8
        exact hno (sh j) (shl j hj ej) ⟨e7.symm, e8.symm⟩
    · by_cases ej : j = p
      · exfalso
        rw [ej, p7, zr7 i hi ei] at e7
        rw [ej, p8, zr8 i hi ei] at e8
        exact hno (sh i) (shl i hi ei) ⟨e7, e8⟩
      · rw [zr7 i hi ei, zr7 j hj ej] at e7
        rw [zr8 i hi ei, zr8 j hj ej] at e8
        have := x3 (sh i) (sh j) (shl i hi ei) (shl j hj ej) e7 e8
        rw [hsh, hsh] at this
        split at this <;> split at this <;> omega
  · by_cases e : 3 * k' + b' = 3 * k + b
    · left
      have ek : k' = k := by omega
      have ebb : b' = b := by omega
      subst ek; subst ebb
      exact ⟨p, by omega, p7, p8⟩
    · rcases x4 b' k' q1 q2 with ⟨j, j1, j2, j3⟩ | q
      · left
        obtain ⟨i, i1, i2, i3⟩ := inv j j1
        exact ⟨i, i1, by rw [zr7 i i1 i2, i3]; exact j2, by rw [zr8 i i1 i2, i3]; exact j3⟩
      · right
        rw [z20, if_neg (fun z => e z.2)]
        exact q
  · refine Nat.le_trans (cnF_inj sh 0 X (X + 1) 0 _ (fun i _ i2 q => ?_) (fun i j _ i2 _ j2 q1 q2 e => ?_)) (x5 b' q1)
    · obtain ⟨g1, g2⟩ := q
      have e : ¬ i = p := by
        intro e
        rw [e, p9, z12, et] at g2
        have := hlt b' q1
        omega
      have hl := shl i (by omega) e
      rw [zr7 i (by omega) e] at g1
      rw [zr9 i (by omega) e, z12] at g2
      exact ⟨Nat.zero_le _, by omega, g1, g2⟩
    · have f : ∀ i, i < X + 1 → (z 7 i = nI b' ∧ (z 9 i).toInt ≤ (z 12 b').toInt) → ¬ i = p := by
        intro i _ q e
        have g2 := q.2
        rw [e, p9, z12, et] at g2
        have := hlt b' ‹_›
        omega
      have ei := f i (by omega) q1
      have ej := f j (by omega) q2
      rw [hsh, hsh] at e
      split at e <;> split at e <;> omega
theorem carry_sa {c t M S X X' k s b : Nat} {u v w m z : Mem} (h : SA c t M S X u) (hlt : ∀ n, n < 3 → (u 12 n).toInt < t) (hs : s < 24) (hk : 1 ≤ k) (hk2 : k ≤ M) (h3 : u 3 s = nI k) (hb : b < 3) (hv : ∀ q, q < 15 → v q = u q) (hm : ∀ q, 15 ≤ q → m q = u q) (hcar : carR v w X s b (nI k) X') (hz1 : ∀ q, q < 15 → z q = w q) (hz2 : ∀ q, 15 ≤ q → z q = arrM m k (s / 8) b q) : SA c t M S X' z := by
  obtain ⟨ca, hx⟩ := ca_of h hs hk hk2 h3 hv hm hcar hz1 hz2
  have key : SX M t X' z ∧ z 6 3 = nI X' ∧ X' ≤ 105 := by
    have hX := h.1.2.2.2.2.2.2.2.1
    have hX2 := h.1.1.2.2.2.2
    rcases hx with ⟨eb, rfl, z6, z7, z8, z9⟩ | ⟨eb, ⟨r, r1, r7, r8, z6, z7, z8, z9, rfl⟩ | ⟨hno, rfl, p, p1, p6, hc, p7, p8, p9, hhi, hlo⟩⟩
    · exact ⟨ca_x1 h hs hb ca eb z7 z8 z9, by rw [z6]; exact hX, hX2⟩
    · exact ⟨ca_x2 h hlt hs hk hk2 h3 hb ca eb r1 r7 r8 z7 z8 z9, by rw [z6]; exact hX, hX2⟩
    · have := room h hs hk hk2 h3 hb eb hno
      exact ⟨ca_x3 h hlt hs hk hk2 h3 hb ca eb hno p1 hc p7 p8 p9 hhi hlo, p6, by omega⟩
  have hh := ca_h h hs hk hk2 h3 ca
  obtain ⟨⟨⟨c1, c2, c3, c4, c5⟩, e1, e2, e3, e4, e5, e6, e7, e8⟩, hR, hL, hQ, hH, -⟩ := h
  obtain ⟨a0, a5, a17, a13, a22, a20⟩ := ca
  have o : ∀ q, ¬ q = 5 → ¬ (6 ≤ q ∧ q ≤ 9) → ¬ q = 13 → ¬ q = 17 → ¬ q = 20 → ¬ q = 22 → z q = u q := fun q b1 b2 b3 b4 b5 b6 => a0 q b1 (by omega) (by omega) (by omega) (by omega) b3 b4 b5 b6
  have z0 : z 0 = u 0 := o 0 (by decide) (by decide) (by decide) (by decide) (by decide) (by decide)
  have z15 : z 15 = u 15 := o 15 (by decide) (by decide) (by decide) (by decide) (by decide) (by decide)
  have z2 : z 2 = u 2 := o 2 (by decide) (by decide) (by decide) (by decide) (by decide) (by decide)
  have z10 : z 10 = u 10 := o 10 (by decide) (by decide) (by decide) (by decide) (by decide) (by decide)
  have z1 : z 1 = u 1 := o 1 (by decide) (by decide) (by decide) (by decide) (by decide) (by decide)
  have z19 : z 19 = u 19 := o 19 (by decide) (by decide) (by decide) (by decide) (by decide) (by decide)
  have z11 : z 11 = u 11 := o 11 (by decide) (by decide) (by decide) (by decide) (by decide) (by decide)
  have z23 : z 23 = u 23 := o 23 (by decide) (by decide) (by decide) (by decide) (by decide) (by decide)
  have z12 : z 12 = u 12 := o 12 (by decide) (by decide) (by decide) (by decide) (by decide) (by decide)
  have z21 : z 21 = u 21 := o 21 (by decide) (by decide) (by decide) (by decide) (by decide) (by decide)
  refine ⟨⟨⟨c1, c2, c3, c4, key.2.2⟩, by rw [z0]; exact e1, by rw [z15]; exact e2, by rw [z2]; exact e3, by rw [z15]; exact e4, by rw [z10]; exact e5, by rw [z15]; exact e6, key.2.1, by rw [z15, z0]; exact e8⟩, ?_, ?_, ?_, hh, key.1⟩
  · unfold SR; rw [z1, z19]; exact hR
  · intro n hn
    obtain ⟨q1, q2, q3, q4, q5⟩ := hL n hn
    refine ⟨by rw [z12, z21]; exact q1, ?_, by rw [z12]; exact q3, by rw [z12]; exact q4, by rw [z12, z0]; exact q5⟩
    rw [a22, a13]
    split
    · rfl
    · exact q2
  · unfold SQ; rw [z11, z23]; exact hQ
