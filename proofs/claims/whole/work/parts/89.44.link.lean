/-! Pure: class and reference reach alike. -/
theorem countOf_loop {N X b : Nat} {κ : Int32 → Mem → Rs} {u : Mem} (hX : u 6 3 = nI X) (hX2 : X ≤ 105) : ∀ (d i n c : Nat), i + d = X → d < n → k_Xt_countOf_4 N κ n (nI b) (nI c) (nI i) u = κ (nI (c + cnF (fun i => u 7 i = nI b) i d)) u := by
  intro d
  induction d with
  | zero =>
    intro i n c hi hn
    obtain ⟨n, rfl, hn⟩ := succ_of hn
    rw [k_Xt_countOf_4, hX, if_pos (nI_le (by omega) (by omega))]
    rfl
  | succ d ih =>
    intro i n c hi hn
    obtain ⟨n, rfl, hn⟩ := succ_of hn
    rw [k_Xt_countOf_4, hX, if_neg (nI_ge (by omega) (by omega)), gdN (by omega) (by omega)]
    simp (disch := omega) only [nI_clamp, nI_1]
    by_cases h : u 7 i = nI b
    · rw [if_pos h, ih (i + 1) n (c + 1) (by omega) (by omega), cnF, if_pos h, Nat.add_assoc]
    · rw [if_neg h, ih (i + 1) n c (by omega) (by omega), cnF, if_neg h, Nat.zero_add]
theorem countOf_eq {N X b : Nat} {u : Mem} (hN : 600 ≤ N) (hX : u 6 3 = nI X) (hX2 : X ≤ 105) : f_Xt_countOf N (nI b) u = some (nI (cnF (fun i => u 7 i = nI b) 0 X), u) := by
  have h := countOf_loop (N := N) (b := b) (κ := fun x v => some (x, v)) hX hX2 X 0 N 0 (by omega) (by omega)
  rw [Nat.zero_add] at h
  exact h
theorem exitsM_loop {N M b : Nat} {κ : Int32 → Mem → Rs} {u : Mem} (hb : b < 3) (hM : u 15 1 = nI M) (hM2 : M ≤ 512) : ∀ (d i n c : Nat), i + d = M + 1 → d < n → k_Md_exits_4 N κ n (nI b) (nI c) (nI i) u = κ (nI (c + cnF (fun k => ¬ u 20 (3 * k + b) ≤ 0) i d)) u := by
  intro d
  induction d with
  | zero =>
    intro i n c hi hn
    obtain ⟨n, rfl, hn⟩ := succ_of hn
    rw [k_Md_exits_4, hM, if_pos (nI_lt (by omega) (by omega))]
    rfl
  | succ d ih =>
    intro i n c hi hn
    obtain ⟨n, rfl, hn⟩ := succ_of hn
    rw [k_Md_exits_4, hM, if_neg (nI_nlt (by omega) (by omega)), root_eq2, gdN (by omega) (by omega)]
    simp (disch := omega) only [nI_clamp, nI_1]
    by_cases h : u 20 (3 * i + b) ≤ 0
    · rw [if_pos h, ih (i + 1) n c (by omega) (by omega), cnF, if_neg (fun z => z h), Nat.zero_add]
    · rw [if_neg h, ih (i + 1) n (c + 1) (by omega) (by omega), cnF, if_pos h, Nat.add_assoc]
theorem exitsM_eq {N M b : Nat} {u : Mem} (hN : 600 ≤ N) (hb : b < 3) (hM : u 15 1 = nI M) (hM2 : M ≤ 512) : f_Md_exits N (nI b) u = some (nI (cnF (fun k => ¬ u 20 (3 * k + b) ≤ 0) 1 M), u) := by
  have h := exitsM_loop (N := N) (κ := fun x v => some (x, v)) hb hM hM2 M 1 N 0 (by omega) (by omega)
  rw [Nat.zero_add] at h
  exact h
theorem ti0 {x : Int32} : x ≤ 0 ↔ x.toInt ≤ 0 := by
  rw [ti_le, show (0 : Int32).toInt = 0 by decide]
theorem ti0' {x : Int32} : 0 ≤ x ↔ 0 ≤ x.toInt := by
  rw [ti_le, show (0 : Int32).toInt = 0 by decide]
theorem cnt_exits {c t M S X b : Nat} {u : Mem} (h : SA c t M S X u) (hb : b < 3) : cnF (fun i => u 7 i = nI b) 0 X = cnF (fun k => ¬ u 20 (3 * k + b) ≤ 0) 1 M := by
  have hM := h.1.1
  obtain ⟨x1, x2, x3, x4, x5⟩ := h.2.2.2.2.2
  apply Nat.le_antisymm
  · refine cnF_inj (fun i => (u 8 i).toNatClampNeg) 1 M X 0 _ (fun i _ a2 a3 => ?_) (fun i j _ a2 _ a4 p1 p2 e => ?_)
    · obtain ⟨b', k, q1, q2, q3, q4, q5, q6, q7, q8, -⟩ := x1 i (by omega)
      have eb : b' = b := nI_inj (q4.symm.trans a3) (by omega) (by omega)
      subst eb
      have k3 : (u 8 i).toNatClampNeg = k := by rw [q5]; exact nI_clamp (by omega)
      rw [k3]
      refine ⟨q2, by omega, ?_⟩
      rw [q6, ti0]
      omega
    · obtain ⟨b', k, q1, q2, q3, q4, q5, -⟩ := x1 i (by omega)
      obtain ⟨b'', k', r1, r2, r3, r4, r5, -⟩ := x1 j (by omega)
      have ek : k = k' := by
        have := e
        simp only [q5, r5] at this
        rw [nI_clamp (by omega), nI_clamp (by omega)] at this
        exact this
      exact x3 i j (by omega) (by omega) (p1.trans p2.symm) (by rw [q5, r5, ek])
  · have hex : ∀ k, ∃ i, (1 ≤ k → k ≤ M → ¬ u 20 (3 * k + b) ≤ 0 → i < X ∧ u 7 i = nI b ∧ u 8 i = nI k) := by
      intro k
      by_cases q : 1 ≤ k ∧ k ≤ M ∧ ¬ u 20 (3 * k + b) ≤ 0
      · rcases x4 b k hb (by omega) with ⟨i, i1, i2, i3⟩ | z
        · exact ⟨i, fun _ _ _ => ⟨i1, i2, i3⟩⟩
        · exact absurd (ti0.mpr z) q.2.2
      · exact ⟨0, fun a1 a2 a3 => absurd ⟨a1, a2, a3⟩ q⟩
    obtain ⟨g, hg⟩ := Classical.axiomOfChoice hex
    refine cnF_inj g 0 X M 1 _ (fun k a1 a2 a3 => ?_) (fun k k' a1 a2 a3 a4 p1 p2 e => ?_)
    · obtain ⟨i1, i2, i3⟩ := hg k a1 (by omega) a3
      exact ⟨Nat.zero_le _, by omega, i2⟩
    · obtain ⟨i1, i2, i3⟩ := hg k a1 (by omega) p1
      obtain ⟨j1, j2, j3⟩ := hg k' a3 (by omega) p2
      rw [e, j3] at i3
      exact (nI_inj i3 (by omega) (by omega)).symm
/-- the greatest stamps with which the objects of a node are reached -/
def BestOf (m : Mem) (b M : Nat) (B : Nat → Int32) : Prop := ∃ I : Nat → Int32, (∀ k, 1 ≤ k → k ≤ M → bestP m b k (I k)) ∧ (∀ k, 1 ≤ k → k ≤ M → (I k).toInt ≤ (B k).toInt) ∧ (∀ k f x, f < 2 → edgeF m b M k f x → (B k).toInt ≤ (B x).toInt) ∧ (∀ g : Nat → Int, (∀ k f x, f < 2 → edgeF m b M k f x → g k ≤ g x) → (∀ k, 1 ≤ k → k ≤ M → (I k).toInt ≤ g k) → ∀ k, 1 ≤ k → k ≤ M → (B k).toInt ≤ g k) ∧ ∀ Pr : Int32 → Prop, (∀ k, 1 ≤ k → k ≤ M → Pr (I k)) → ∀ k, 1 ≤ k → k ≤ M → Pr (B k)
theorem bestP_one {m : Mem} {b k : Nat} {x y : Int32} (h : bestP m b k x) (h' : bestP m b k y) : x = y := by
  rcases h with ⟨a1, a2, a3⟩ | ⟨a1, a2, a3⟩ | ⟨a1, a3⟩
  · rcases h' with ⟨c1, c2, c3⟩ | ⟨c1, c2, c3⟩ | ⟨c1, c3⟩
    · rw [a3, c3]
    · exact absurd a2 c2
    · exact absurd a1 c1
  · rcases h' with ⟨c1, c2, c3⟩ | ⟨c1, c2, c3⟩ | ⟨c1, c3⟩
    · exact absurd c2 a2
    · rw [a3, c3]
    · exact absurd a1 c1
  · rcases h' with ⟨c1, c2, c3⟩ | ⟨c1, c2, c3⟩ | ⟨c1, c3⟩
    · exact absurd c1 a1
    · exact absurd c1 a1
    · rw [a3, c3]
theorem BestOf.one {m : Mem} {b M : Nat} {B B' : Nat → Int32} (h : BestOf m b M B) (h' : BestOf m b M B') : ∀ k, 1 ≤ k → k ≤ M → B k = B' k := by
  obtain ⟨I, a1, a2, a3, a4, a5⟩ := h
  obtain ⟨I', c1, c2, c3, c4, c5⟩ := h'
  intro k k1 k2
  have e : ∀ j, 1 ≤ j → j ≤ M → I j = I' j := fun j j1 j2 => bestP_one (a1 j j1 j2) (c1 j j1 j2)
  rw [ti_eq]
  apply Int.le_antisymm
  · exact a4 (fun k => (B' k).toInt) c3 (fun j j1 j2 => by rw [e j j1 j2]; exact c2 j j1 j2) k k1 k2
  · exact c4 (fun k => (B k).toInt) a3 (fun j j1 j2 => by rw [← e j j1 j2]; exact a2 j j1 j2) k k1 k2
theorem BestOf.cong {m m' : Mem} {b M : Nat} {B : Nat → Int32} (h : BestOf m b M B) (h15 : m' 15 0 = m 15 0) (h16 : m' 16 = m 16) (h17 : m' 17 = m 17) (h18 : m' 18 = m 18) (h19 : m' 19 = m 19) : BestOf m' b M B := by
  unfold BestOf bestP edgeF hrt at h ⊢
  rw [h15, h16, h17, h18, h19]
  exact h
theorem best_run {N M b t : Nat} {κ : Int32 → Mem → Rs} {m : Mem} (hN : 300000 ≤ N) (hb : b < 3) (hM : m 15 1 = nI M) (hM2 : M ≤ 512) (ht : t ≤ 512) (hneg : ∀ j, 1 ≤ j → j ≤ M → m 16 j < 0 → ¬ m 16 j = nI b) (h15 : m 15 0 = nI t) (h17 : ∀ k, 1 ≤ k → k ≤ M → m 16 k = nI b → m 17 k = -1 ∨ (0 ≤ (m 17 k).toInt ∧ (m 17 k).toInt ≤ t)) : ∃ w', k_Md_collect_38 N (fun (x25 : Int32) (u26 : Mem) => k_Md_collect_96 N κ N x25 1 u26) N (nI b) 1 m = κ (nI b) w' ∧ (∀ p, ¬ p = 24 → w' p = m p) ∧ BestOf m b M (w' 24) ∧ ∀ k, 1 ≤ k → k ≤ M → w' 24 k = -1 ∨ (0 ≤ (w' 24 k).toInt ∧ (w' 24 k).toInt ≤ t) := by
  obtain ⟨w0, a1, a2, a3⟩ := best_loop (N := N) (κ := fun (x25 : Int32) (u26 : Mem) => k_Md_collect_96 N κ N x25 1 u26) (u := m) hb hM hM2 M 1 N m (by omega) (by omega) (Nat.le_refl _) (fun _ _ => rfl) (fun j q1 q2 => by omega)
  have hok : ∀ k, 1 ≤ k → k ≤ M → w0 24 k = -1 ∨ (0 ≤ (w0 24 k).toInt ∧ (w0 24 k).toInt ≤ t) := by
    intro k k1 k2
    rcases a3 k k1 k2 with ⟨q1, q2, q3⟩ | ⟨q1, q2, q3⟩ | ⟨q1, q3⟩
    · right
      rw [q3, h15, nI_toInt (by omega)]
      omega
    · rw [q3]; exact h17 k k1 k2 q1
    · exact Or.inl q3
  have hT : ∀ j, 1 ≤ j → j ≤ M → (w0 24 j).toInt ≤ (t : Int) := by
    intro j j1 j2
    rcases hok j j1 j2 with q | q
    · rw [q, m1_ti]; omega
    · omega
  have hge := sB_ge (w := w0) M (fun j j1 j2 => by
    rcases hok j j1 j2 with q | q
    · rw [q, m1_ti]; omega
    · omega)
  have hmul : M * t ≤ 512 * 512 := Nat.mul_le_mul hM2 ht
  obtain ⟨w', c1, c2, c3, c4⟩ := while_loop (N := N) (κ := κ) (T := t) (u := m) (w0 := w0) (by omega) hb hM hM2 hneg hT (M * t + M) N w0 (by omega) (by omega) a2 upM.rf
  refine ⟨w', a1.trans c1, c3, ⟨w0 24, a3, c2.2.1, c4, c2.2.2.1, c2.2.2.2⟩, ?_⟩
  exact c2.2.2.2 (fun x => x = -1 ∨ (0 ≤ x.toInt ∧ x.toInt ≤ t)) hok
/-- the class's stamps are the reference's -/
theorem reach_link {c t M S X b N : Nat} {u u1 m : Mem} {B : Nat → Int32} (hN : 600 ≤ N) (h : SA c t M S X u) (hb : b < 3) (hu0 : u1 0 7 = nI (t + 1)) (hu : ∀ q, ¬ q = 0 → u1 q = u q) (hB : BestOf m b M B) (h15 : m 15 0 = nI (t + 1)) (h16 : m 16 = u 16) (h17 : m 17 = u 17) (h18 : m 18 = u 18) (h19 : m 19 = u 19) : ∃ w0 w1, f_Sh_reachFromRootsAndEntries N (nI b) u1 = some (0, w0) ∧ f_Sh_reachAlongFields N (nI b) w0 = some (0, w1) ∧ (∀ p, ¬ p = 14 → w1 p = u1 p) ∧ (∀ j, 8 * b ≤ j → j < 8 * b + 8 → u 3 j = 0 → w1 14 j = -1) ∧ (∀ j k, 8 * b ≤ j → j < 8 * b + 8 → 1 ≤ k → k ≤ M → u 3 j = nI k → w1 14 j = B k) ∧ (∀ j, 8 * b ≤ j → j < 8 * b + 8 → (u 5 j).toInt ≤ (w1 14 j).toInt ∨ (u 5 j).toInt ≤ t + 1 ∧ w1 14 j = nI (t + 1)) := by
  have hSA := h
  obtain ⟨⟨⟨c1, c2, c3, c4, c5⟩, e1, e2, e3, e4, e5, e6, e7, e8⟩, hR, hL, hQ, ⟨d3, h1, h2, h3, h4, h5, h6⟩, hX⟩ := h
  obtain ⟨I, i1, i2, i3, i4, i5⟩ := hB
  have hnum : ∀ s, s < 24 → ∃ k, k ≤ 512 ∧ u 3 s = nI k := fun s hs => by
    obtain ⟨k, k1, k2⟩ := h1 s hs
    exact ⟨k, by omega, k2⟩
  obtain ⟨w0, a1, a2, a3⟩ := reach0_eq (N := N) (u := u1) hN hb
  have w3 : w0 3 = u 3 := (a2 3 (by decide)).trans (hu 3 (by decide))
  have w4 : w0 4 = u 4 := (a2 4 (by decide)).trans (hu 4 (by decide))
  -- the beginnings are alike
  have init : ∀ j k, 8 * b ≤ j → j < 8 * b + 8 → 1 ≤ k → k ≤ M → u 3 j = nI k → w0 14 j = I k := by
    intro j k j1 j2 k1 k2 hk
    obtain ⟨g1, g2, -, -⟩ := h2 j k (by omega) k1 k2 hk
    have hob : u 16 k = nI b := by rw [g1]; congr 1; omega
    have hrr : hrt u 19 b (nI k) ↔ hrt u1 1 b (u1 3 j) := by
      unfold hrt
      rw [hu 1 (by decide), hu 3 (by decide), hk, hR _ (by omega), hR _ (by omega), hR _ (by omega)]
    have n0 : ¬ u1 3 j = 0 := by rw [hu 3 (by decide), hk]; exact nI_ne0 (by omega) (by omega)
    rcases i1 k k1 k2 with ⟨q1, q2, q3⟩ | ⟨q1, q2, q3⟩ | ⟨q1, q3⟩
    · unfold hrt at q2
      rw [h19] at q2
      rcases a3 j j1 j2 with ⟨r1, r2, r3⟩ | ⟨r1, r3⟩
      · rw [r3, q3, h15, hu0]
      · exact absurd (hrr.mp q2) (r1.elim (fun z => absurd z n0) id)
    · unfold hrt at q2
      rw [h19] at q2
      rcases a3 j j1 j2 with ⟨r1, r2, r3⟩ | ⟨r1, r3⟩
      · exact absurd (hrr.mpr r2) q2
      · rw [r3, q3, h17, g2, hu 5 (by decide)]
    · rw [h16] at q1
      exact absurd hob q1
  have free0 : ∀ j, 8 * b ≤ j → j < 8 * b + 8 → u 3 j = 0 → w0 14 j = -1 := by
    intro j j1 j2 hz
    rcases a3 j j1 j2 with ⟨r1, -⟩ | ⟨-, r3⟩
    · rw [hu 3 (by decide)] at r1
      exact absurd hz r1
    · rw [r3, hu 5 (by decide)]
      exact (h4 j (by omega) hz).1
  -- the least fixed point over the slots
  obtain ⟨Lf, hLf⟩ : ∃ Lf : Nat → Int, ∀ j, Lf j = if u 3 j = 0 then -1 else (B (u 3 j).toNatClampNeg).toInt := ⟨_, fun _ => rfl⟩
  have LfB : ∀ j k, 1 ≤ k → k ≤ M → u 3 j = nI k → Lf j = (B k).toInt := by
    intro j k k1 k2 hk
    rw [hLf, hk, if_neg (nI_ne0 (by omega) (by omega)), nI_clamp (by omega)]
  have numOf : ∀ j, j < 24 → ¬ u 3 j = 0 → ∃ k, 1 ≤ k ∧ k ≤ M ∧ u 3 j = nI k := by
    intro j hj hz
    obtain ⟨k, k1, k2⟩ := h1 j hj
    refine ⟨k, ?_, k1, k2⟩
    rcases Nat.eq_zero_or_pos k with z | z
    · rw [z] at k2; exact absurd k2 hz
    · exact z
  have edges : ∀ y x, edge u b y x → ∃ ky kx f, f < 2 ∧ u 3 y = nI ky ∧ u 3 x = nI kx ∧ edgeF m b M ky f kx := by
    intro y x ⟨⟨y1, y2⟩, ⟨x1, x2⟩, hz, hf⟩
    obtain ⟨kx, q1, q2, q3⟩ := numOf x (by omega) hz
    have hyz : ¬ u 3 y = 0 := by
      intro z
      obtain ⟨-, f1, f2⟩ := h4 y (by omega) z
      rcases hf with hf | hf
      · rw [f1] at hf; exact hz hf.symm
      · rw [f2] at hf; exact hz hf.symm
    obtain ⟨ky, r1, r2, r3⟩ := numOf y (by omega) hyz
    obtain ⟨g1, g2, g3, g4⟩ := h2 y ky (by omega) r1 r2 r3
    obtain ⟨p1, -, -, -⟩ := h2 x kx (by omega) q1 q2 q3
    have oy : m 16 ky = nI b := by rw [h16, g1]; congr 1; omega
    have ox : m 16 kx = nI b := by rw [h16, p1]; congr 1; omega
    rcases hf with hf | hf
    · exact ⟨ky, kx, 0, by omega, r3, q3, ⟨r1, r2, oy⟩, ⟨q1, q2, ox⟩, by rw [h18, Nat.add_zero, g3, hf, q3]⟩
    · exact ⟨ky, kx, 1, by omega, r3, q3, ⟨r1, r2, oy⟩, ⟨q1, q2, ox⟩, by rw [h18, g4, hf, q3]⟩
  have hfix : ∀ y x, edge u b y x → Lf y ≤ Lf x := by
    intro y x he
    obtain ⟨ky, kx, f, f1, f2, f3, f4⟩ := edges y x he
    rw [LfB y ky f4.1.1 f4.1.2.1 f2, LfB x kx f4.2.1.1 f4.2.1.2.1 f3]
    exact i3 ky f kx f1 f4
  have hge : ∀ j, 8 * b ≤ j → j < 8 * b + 8 → (w0 14 j).toInt ≤ Lf j := by
    intro j j1 j2
    by_cases hz : u 3 j = 0
    · rw [free0 j j1 j2 hz, hLf, if_pos hz, m1_ti]
      exact Int.le_refl _
    · obtain ⟨k, k1, k2, k3⟩ := numOf j (by omega) hz
      rw [LfB j k k1 k2 k3, init j k j1 j2 k1 k2 k3]
      exact i2 k k1 k2
  have slotOf : ∀ k, ∃ s, (1 ≤ k → k ≤ M → m 16 k = nI b → (8 * b ≤ s ∧ s < 8 * b + 8) ∧ u 3 s = nI k) := by
    intro k
    by_cases q : 1 ≤ k ∧ k ≤ M ∧ m 16 k = nI b
    · rcases h3 k q.1 q.2.1 with z | ⟨s, s1, s2⟩
      · have := q.2.2
        rw [h16, z] at this
        exact absurd this.symm (m1_ne (by omega))
      · refine ⟨s, fun _ _ _ => ⟨?_, s2⟩⟩
        have e := (h2 s k s1 q.1 q.2.1 s2).1
        have := q.2.2
        rw [h16, e] at this
        have := nI_inj this (by omega) (by omega)
        omega
    · exact ⟨0, fun a1 a2 a3 => absurd ⟨a1, a2, a3⟩ q⟩
  obtain ⟨sl, hsl⟩ := Classical.axiomOfChoice slotOf
  have hleast : ∀ g : Nat → Int, (∀ j, 8 * b ≤ j → j < 8 * b + 8 → (w0 14 j).toInt ≤ g j) → (∀ y x, edge u b y x → g y ≤ g x) → ∀ j, 8 * b ≤ j → j < 8 * b + 8 → Lf j ≤ g j := by
    intro g g1 g2 j j1 j2
    by_cases hz : u 3 j = 0
    · have := g1 j j1 j2
      rw [free0 j j1 j2 hz, m1_ti] at this
      rw [hLf, if_pos hz]
      exact this
    · obtain ⟨k, k1, k2, k3⟩ := numOf j (by omega) hz
      have hobk : m 16 k = nI b := by
        rw [h16, (h2 j k (by omega) k1 k2 k3).1]; congr 1; omega
      have key := i4 (fun k => if m 16 k = nI b then g (sl k) else -1) (fun k f x f1 f2 => by
        have o1 := f2.1.2.2
        have o2 := f2.2.1.2.2
        simp only [if_pos o1, if_pos o2]
        obtain ⟨r1, r2⟩ := hsl k f2.1.1 f2.1.2.1 o1
        obtain ⟨p1, p2⟩ := hsl x f2.2.1.1 f2.2.1.2.1 o2
        refine g2 _ _ ⟨r1, p1, by rw [p2]; exact nI_ne0 (by have := f2.2.1.1; omega) (by have := f2.2.1.2.1; omega), ?_⟩
        obtain ⟨-, -, q3, q4⟩ := h2 (sl k) k (by omega) f2.1.1 f2.1.2.1 r2
        have q5 := f2.2.2
        rw [h18] at q5
        rw [← q3, ← q4, p2]
        rcases (show f = 0 ∨ f = 1 by omega) with rfl | rfl
        · exact Or.inl q5
        · exact Or.inr q5) (fun k' k1' k2' => by
        by_cases o1 : m 16 k' = nI b
        · simp only [if_pos o1]
          obtain ⟨r1, r2⟩ := hsl k' k1' k2' o1
          rw [← init (sl k') k' r1.1 r1.2 k1' k2' r2]
          exact g1 _ r1.1 r1.2
        · simp only [if_neg o1]
          rcases i1 k' k1' k2' with ⟨q1, -⟩ | ⟨q1, -⟩ | ⟨-, q3⟩
          · exact absurd q1 o1
          · exact absurd q1 o1
          · rw [q3, m1_ti]; exact Int.le_refl _) k k1 k2
      simp only [if_pos hobk] at key
      obtain ⟨r1, r2⟩ := hsl k k1 k2 hobk
      have es : sl k = j := d3 (sl k) j (by omega) (by omega) (r2.trans k3.symm) (by rw [r2]; exact nI_ne0 (by omega) (by omega))
      rw [es] at key
      rw [LfB j k k1 k2 k3]
      exact key
  obtain ⟨w1, b1, b2, b3⟩ := along_eq (N := N) (u := u) (w0 := w0) (Lf := Lf) hN hb d3 hnum w3 w4 hfix hge hleast
  refine ⟨w0, w1, a1, b1, fun p hp => (b2.1 p hp).trans (a2 p hp), fun j j1 j2 hz => ?_, fun j k j1 j2 k1 k2 hk => ?_, fun j j1 j2 => ?_⟩
  · rw [ti_eq, b3 j j1 j2, hLf, if_pos hz, m1_ti]
  · rw [ti_eq, b3 j j1 j2, LfB j k k1 k2 hk]
  · left
    have q := b2.2.1 j j1 j2
    have hj := h5 j (by omega)
    rcases a3 j j1 j2 with ⟨r1, r2, r3⟩ | ⟨-, r3⟩
    · rw [r3, hu0, nI_toInt (by omega)] at q
      rcases hj with z | z
      · rw [z, m1_ti]; omega
      · omega
    · rw [r3, hu 5 (by decide)] at q
      exact q
