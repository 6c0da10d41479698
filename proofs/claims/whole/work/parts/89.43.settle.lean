/-! Pure: settle, and what goes with its node. -/
def nwX (e v : Int32) : Int32 := if e ≤ 0 then e else if 0 ≤ v then (if v ≤ e then e else v) else 0
def msM (b : Nat) (W E : Nat → Int32) (k : Nat) : Option (Int32 × Int32 × Int32 × Int32) := if ¬ E k ≤ 0 ∧ ¬ W k ≤ E k then some (nI b, nI k, W k, E k) else none
theorem settle_eq {N S b k : Nat} {v : Int32} {m : Mem} (hb : b < 3) (hk : k ≤ 512) (hr : f_Md_reaches N (nI b) (nI k) m = some (v, m)) (hS : m 15 10 = nI S) (hpos : ¬ m 20 (3 * k + b) ≤ 0) (hcap : ¬ v ≤ m 20 (3 * k + b) → S < 90) : ∃ m', f_Md_settle N (nI b) (nI k) m = some (0, m') ∧ (∀ q, ¬ q = 20 → ¬ q = 23 → ¬ q = 15 → m' q = m q) ∧ (∀ j, ¬ j = 10 → m' 15 j = m 15 j) ∧ (∀ j, m' 20 j = if j = 3 * k + b then nwX (m 20 (3 * k + b)) v else m 20 j) ∧ ((v ≤ m 20 (3 * k + b) ∧ m' 15 10 = nI S ∧ m' 23 = m 23) ∨ (¬ v ≤ m 20 (3 * k + b) ∧ m' 15 10 = nI (S + 1) ∧ (∀ j, j < 4 * S → m' 23 j = m 23 j) ∧ m' 23 (4 * S) = nI b ∧ m' 23 (4 * S + 1) = nI k ∧ m' 23 (4 * S + 2) = v ∧ m' 23 (4 * S + 3) = m 20 (3 * k + b))) := by
  unfold f_Md_settle
  dsimp only [jn]
  rw [hr, bd_some, root_eq2, gdN (by omega) (by omega)]
  simp (disch := omega) only [nI_clamp]
  by_cases h0 : 0 ≤ v
  · rw [if_pos h0]
    by_cases hle : v ≤ m 20 (3 * k + b)
    · rw [if_pos hle]
      refine ⟨m, rfl, fun _ _ _ _ => rfl, fun _ _ => rfl, fun j => ?_, Or.inl ⟨hle, hS, rfl⟩⟩
      by_cases e : j = 3 * k + b
      · rw [if_pos e, e]
        unfold nwX
        rw [if_neg hpos, if_pos h0, if_pos hle]
      · rw [if_neg e]
    · rw [if_neg hle, gdN (by omega) (by omega)]
      have hc := hcap hle
      have e0 : 4 * nI S = nI (4 * S) := pk_mul 4 S
      have e1 : nI (4 * S) + 1 = nI (4 * S + 1) := nI_1 _
      have e2 : nI (4 * S) + 2 = nI (4 * S + 2) := nI_add _ 2
      have e3 : nI (4 * S) + 3 = nI (4 * S + 3) := nI_add _ 3
      have s0 : stM m 20 (3 * k + b) v 15 10 = nI S := by rw [stM_ne (by decide), hS]
      rw [s0, e0, gdN (by omega) (by omega), nI_clamp (by omega)]
      have s1 : stM (stM m 20 (3 * k + b) v) 23 (4 * S) (nI b) 15 10 = nI S := by rw [stM_ne (by decide), s0]
      rw [s1, e0, e1, gdN (by omega) (by omega), nI_clamp (by omega)]
      have s2 : stM (stM (stM m 20 (3 * k + b) v) 23 (4 * S) (nI b)) 23 (4 * S + 1) (nI k) 15 10 = nI S := by rw [stM_ne (by decide), s1]
      rw [s2, e0, e2, gdN (by omega) (by omega), nI_clamp (by omega)]
      have s3 : stM (stM (stM (stM m 20 (3 * k + b) v) 23 (4 * S) (nI b)) 23 (4 * S + 1) (nI k)) 23 (4 * S + 2) v 15 10 = nI S := by rw [stM_ne (by decide), s2]
      rw [s3, e0, e3, gdN (by omega) (by omega), nI_clamp (by omega)]
      have s4 : stM (stM (stM (stM (stM m 20 (3 * k + b) v) 23 (4 * S) (nI b)) 23 (4 * S + 1) (nI k)) 23 (4 * S + 2) v) 23 (4 * S + 3) (m 20 (3 * k + b)) 15 10 = nI S := by rw [stM_ne (by decide), s3]
      rw [s4, nI_1]
      refine ⟨_, rfl, fun q b1 b2 b3 => by rw [stM_ne b3, stM_ne b2, stM_ne b2, stM_ne b2, stM_ne b2, stM_ne b1], fun j hj => by rw [stM_rs, if_neg hj, stM_ne (by decide), stM_ne (by decide), stM_ne (by decide), stM_ne (by decide), stM_ne (by decide)], fun j => ?_, Or.inr ⟨hle, by rw [stM_rs, if_pos rfl], fun j hj => ?_, ?_, ?_, ?_, ?_⟩⟩
      · rw [stM_ne (by decide), stM_ne (by decide), stM_ne (by decide), stM_ne (by decide), stM_ne (by decide), stM_rs]
        by_cases e : j = 3 * k + b
        · rw [if_pos e, if_pos e]
          unfold nwX
          rw [if_neg hpos, if_pos h0, if_neg hle]
        · rw [if_neg e, if_neg e]
      · rw [stM_ne (by decide), stM_rs, if_neg (by omega), stM_rs, if_neg (by omega), stM_rs, if_neg (by omega), stM_rs, if_neg (by omega), stM_ne (by decide)]
      · rw [stM_ne (by decide), stM_rs, if_neg (by omega), stM_rs, if_neg (by omega), stM_rs, if_neg (by omega), stM_rs, if_pos rfl]
      · rw [stM_ne (by decide), stM_rs, if_neg (by omega), stM_rs, if_neg (by omega), stM_rs, if_pos rfl]
      · rw [stM_ne (by decide), stM_rs, if_neg (by omega), stM_rs, if_pos rfl]
      · rw [stM_ne (by decide), stM_rs, if_pos rfl]
  · have hle : v ≤ m 20 (3 * k + b) := by
      rw [ti_le] at h0 hpos ⊢
      rw [show (0 : Int32).toInt = 0 by decide] at h0 hpos
      omega
    rw [if_neg h0, gdN (by omega) (by omega)]
    refine ⟨_, rfl, fun q b1 b2 b3 => stM_ne b1, fun j hj => by rw [stM_ne (by decide)], fun j => ?_, Or.inl ⟨hle, by rw [stM_ne (by decide)]; exact hS, stM_ne (by decide)⟩⟩
    rw [stM_rs]
    by_cases e : j = 3 * k + b
    · rw [if_pos e, if_pos e]
      unfold nwX
      rw [if_neg hpos, if_neg h0]
    · rw [if_neg e, if_neg e]
theorem settle_loop {N M b : Nat} {κ : Int32 → Int32 → Mem → Rs} {fr : Int32} {m0 : Mem} {W E : Nat → Int32} (hb : b < 3) (hM : m0 15 1 = nI M) (hM2 : M ≤ 512) (hE : ∀ k, E k = m0 20 (3 * k + b)) (hRe : ∀ (w : Mem) (k : Nat), 1 ≤ k → k ≤ M → (∀ q, ¬ q = 20 → ¬ q = 23 → ¬ q = 15 → w q = m0 q) → (∀ j, ¬ j = 10 → w 15 j = m0 15 j) → f_Md_reaches N (nI b) (nI k) w = some (W k, w)) :
    ∀ (d i n : Nat) (w : Mem) (Q : List (Int32 × Int32 × Int32 × Int32)), i + d = M + 1 → d < n → 1 ≤ i → (∀ q, ¬ q = 20 → ¬ q = 23 → ¬ q = 15 → w q = m0 q) → (∀ j, ¬ j = 10 → w 15 j = m0 15 j) → (∀ k, 1 ≤ k → k < i → w 20 (3 * k + b) = nwX (E k) (W k)) → (∀ j, (∀ k, 1 ≤ k → k < i → ¬ j = 3 * k + b) → w 20 j = m0 20 j) → w 15 10 = nI Q.length → Qw w 23 Q → Q.length + ((List.range' i d).filterMap (msM b W E)).length ≤ 40 →
    ∃ w', k_Md_collect_164 N κ n (nI b) fr (nI i) w = κ (nI b) fr w' ∧ (∀ q, ¬ q = 20 → ¬ q = 23 → ¬ q = 15 → w' q = m0 q) ∧ (∀ j, ¬ j = 10 → w' 15 j = m0 15 j) ∧ (∀ k, 1 ≤ k → k ≤ M → w' 20 (3 * k + b) = nwX (E k) (W k)) ∧ (∀ j, (∀ k, 1 ≤ k → k ≤ M → ¬ j = 3 * k + b) → w' 20 j = m0 20 j) ∧ w' 15 10 = nI (Q ++ (List.range' i d).filterMap (msM b W E)).length ∧ Qw w' 23 (Q ++ (List.range' i d).filterMap (msM b W E)) := by
  intro d
  induction d with
  | zero =>
    intro i n w Q hi hn h1 f1 f2 f3 f4 hq hQ hcap
    obtain ⟨n, rfl, hn⟩ := succ_of hn
    refine ⟨w, ?_, f1, f2, fun k a c => f3 k a (by omega), fun j hj => f4 j (fun k a c => hj k a (by omega)), by simpa using hq, by simpa using hQ⟩
    rw [k_Md_collect_164, f2 1 (by decide), hM, if_pos (nI_lt (by omega) (by omega))]
  | succ d ih =>
    intro i n w Q hi hn h1 f1 f2 f3 f4 hq hQ hcap
    obtain ⟨n, rfl, hn⟩ := succ_of hn
    have w20 : w 20 (3 * i + b) = E i := by
      rw [hE, f4 _ (fun k a c => by omega)]
    have head : k_Md_collect_164 N κ (n + 1) (nI b) fr (nI i) w = if E i ≤ 0 then k_Md_collect_164 N κ n (nI b) fr (nI (i + 1)) w else bd (f_Md_settle N (nI b) (nI i) w) (fun _ u56 => k_Md_collect_164 N κ n (nI b) fr (nI (i + 1)) u56) := by
      rw [k_Md_collect_164, f2 1 (by decide), hM, if_neg (nI_nlt (by omega) (by omega)), root_eq2, gdN (by omega) (by omega)]
      simp (disch := omega) only [nI_clamp, nI_1]
      rw [w20]
    rw [List.range'_succ, List.filterMap_cons] at hcap ⊢
    by_cases he : E i ≤ 0
    · have em : msM b W E i = none := by
        unfold msM
        rw [if_neg (fun z => z.1 he)]
      rw [em] at hcap ⊢
      obtain ⟨w', a1, a2, a3, a4, a5, a6, a7⟩ := ih (i + 1) n w Q (by omega) (by omega) (by omega) f1 f2 (fun k a c => by
        by_cases e : k = i
        · rw [e, w20]
          unfold nwX
          rw [if_pos he]
        · exact f3 k a (by omega)) (fun j hj => f4 j (fun k a c => hj k a (by omega))) hq hQ hcap
      refine ⟨w', ?_, a2, a3, a4, a5, a6, a7⟩
      rw [head, if_pos he]
      exact a1
    · obtain ⟨m', s1, s2, s3, s4, s5⟩ := settle_eq (N := N) (S := Q.length) (b := b) (k := i) (v := W i) (m := w) hb (by omega) (hRe w i h1 (by omega) f1 f2) hq (by rw [w20]; exact he) (fun _ => by omega)
      rw [w20] at s4 s5
      have g1 : ∀ q, ¬ q = 20 → ¬ q = 23 → ¬ q = 15 → m' q = m0 q := fun q b1 b2 b3 => (s2 q b1 b2 b3).trans (f1 q b1 b2 b3)
      have g2 : ∀ j, ¬ j = 10 → m' 15 j = m0 15 j := fun j hj => (s3 j hj).trans (f2 j hj)
      have g3 : ∀ k, 1 ≤ k → k < i + 1 → m' 20 (3 * k + b) = nwX (E k) (W k) := by
        intro k a c
        rw [s4]
        by_cases e : k = i
        · rw [if_pos (by rw [e]), e]
        · rw [if_neg (by omega)]
          exact f3 k a (by omega)
      have g4 : ∀ j, (∀ k, 1 ≤ k → k < i + 1 → ¬ j = 3 * k + b) → m' 20 j = m0 20 j := by
        intro j hj
        rw [s4, if_neg (hj i h1 (by omega))]
        exact f4 j (fun k a c => hj k a (by omega))
      rcases s5 with ⟨t1, t2, t3⟩ | ⟨t1, t2, t3, t4, t5, t6, t7⟩
      · have em : msM b W E i = none := by
          unfold msM
          rw [if_neg (fun z => z.2 t1)]
        rw [em] at hcap ⊢
        obtain ⟨w', a1, a2, a3, a4, a5, a6, a7⟩ := ih (i + 1) n m' Q (by omega) (by omega) (by omega) g1 g2 g3 g4 t2 (by unfold Qw; rw [t3]; exact hQ) hcap
        refine ⟨w', ?_, a2, a3, a4, a5, a6, a7⟩
        rw [head, if_neg he, s1, bd_some]
        exact a1
      · have em : msM b W E i = some (nI b, nI i, W i, E i) := by
          unfold msM
          rw [if_pos ⟨he, t1⟩]
        rw [em] at hcap ⊢
        rw [List.length_cons] at hcap
        have eq : Q ++ (nI b, nI i, W i, E i) :: (List.range' (i + 1) d).filterMap (msM b W E) = Q ++ [(nI b, nI i, W i, E i)] ++ (List.range' (i + 1) d).filterMap (msM b W E) := by
          rw [List.append_assoc]; rfl
        obtain ⟨w', a1, a2, a3, a4, a5, a6, a7⟩ := ih (i + 1) n m' (Q ++ [(nI b, nI i, W i, E i)]) (by omega) (by omega) (by omega) g1 g2 g3 g4 (by rw [t2, List.length_append]; rfl) (hQ.push t3 t4 t5 t6 t7) (by rw [List.length_append]; simp only [List.length_cons, List.length_nil]; omega)
        refine ⟨w', ?_, a2, a3, a4, a5, by rw [eq]; exact a6, by rw [eq]; exact a7⟩
        rw [head, if_neg he, s1, bd_some]
        exact a1
/-- what the class frees -/
def frR (u w : Mem) (b e : Nat) : Prop := (∀ q, ¬ q = 3 → ¬ q = 4 → ¬ q = 5 → w q = u q) ∧ ∀ j, (w 3 j = if 8 * b ≤ j ∧ j < e ∧ (¬ u 3 j = 0 ∧ u 14 j = -1) then 0 else u 3 j) ∧ (w 5 j = if 8 * b ≤ j ∧ j < e ∧ (¬ u 3 j = 0 ∧ u 14 j = -1) then -1 else u 5 j) ∧ (w 4 j = if 8 * b ≤ j / 2 ∧ j / 2 < e ∧ (¬ u 3 (j / 2) = 0 ∧ u 14 (j / 2) = -1) then 0 else u 4 j)
theorem frR.skip {u w : Mem} {b i : Nat} (h : frR u w b i) (hp : ¬ (¬ u 3 i = 0 ∧ u 14 i = -1)) : frR u w b (i + 1) := by
  refine ⟨h.1, fun j => ?_⟩
  obtain ⟨a1, a2, a3⟩ := h.2 j
  have key : ∀ x, (8 * b ≤ x ∧ x < i + 1 ∧ (¬ u 3 x = 0 ∧ u 14 x = -1)) ↔ (8 * b ≤ x ∧ x < i ∧ (¬ u 3 x = 0 ∧ u 14 x = -1)) := by
    intro x
    constructor
    · rintro ⟨c1, c2, c3⟩
      refine ⟨c1, ?_, c3⟩
      by_cases e : x = i
      · rw [e] at c3; exact absurd c3 hp
      · omega
    · rintro ⟨c1, c2, c3⟩
      exact ⟨c1, by omega, c3⟩
  simp only [key]
  exact ⟨a1, a2, a3⟩
theorem frR.step {u w : Mem} {b i : Nat} (h : frR u w b i) (hi : 8 * b ≤ i) (hp : ¬ u 3 i = 0 ∧ u 14 i = -1) : frR u (stM (stM (stM (stM w 3 i 0) 5 i (-1)) 4 (2 * i) 0) 4 (2 * i + 1) 0) b (i + 1) := by
  refine ⟨fun q b3 b4 b5 => by rw [stM_ne b4, stM_ne b4, stM_ne b5, stM_ne b3]; exact h.1 q b3 b4 b5, fun j => ?_⟩
  obtain ⟨a1, a2, a3⟩ := h.2 j
  have key : ∀ x, ¬ x = i → ((8 * b ≤ x ∧ x < i + 1 ∧ (¬ u 3 x = 0 ∧ u 14 x = -1)) ↔ (8 * b ≤ x ∧ x < i ∧ (¬ u 3 x = 0 ∧ u 14 x = -1))) := by
    intro x hx
    constructor
    · rintro ⟨c1, c2, c3⟩; exact ⟨c1, by omega, c3⟩
    · rintro ⟨c1, c2, c3⟩; exact ⟨c1, by omega, c3⟩
  refine ⟨?_, ?_, ?_⟩
  · rw [stM_ne (by decide), stM_ne (by decide), stM_ne (by decide), stM_rs]
    by_cases e : j = i
    · rw [if_pos e, e, if_pos ⟨hi, by omega, hp⟩]
    · simp only [if_neg e, key j e]
      exact a1
  · rw [stM_ne (by decide), stM_ne (by decide), stM_rs, stM_ne (by decide)]
    by_cases e : j = i
    · rw [if_pos e, e, if_pos ⟨hi, by omega, hp⟩]
    · simp only [if_neg e, key j e]
      exact a2
  · rw [stM_rs, stM_rs, stM_ne (by decide), stM_ne (by decide)]
    by_cases e : j / 2 = i
    · rw [e, if_pos (show 8 * b ≤ i ∧ i < i + 1 ∧ ¬ u 3 i = 0 ∧ u 14 i = -1 from ⟨hi, by omega, hp⟩)]
      by_cases e1 : j = 2 * i + 1
      · rw [if_pos e1]
      · rw [if_neg e1, if_pos (by omega)]
    · rw [if_neg (by omega), if_neg (by omega)]
      simp only [key _ e]
      exact a3
theorem freeC_loop {N b : Nat} {κ : Int32 → Mem → Rs} {u : Mem} (hN : 600 ≤ N) (hb : b < 3) : ∀ (d i n c : Nat) (w : Mem), i + d = 8 * b + 8 → d < n → 8 * b ≤ i → frR u w b i → ∃ w2, k_Sh_freeUnreached_7 N κ n (nI b) (nI c) (nI i) w = κ (nI (c + cnF (fun s => ¬ u 3 s = 0 ∧ u 14 s = -1) i d)) w2 ∧ frR u w2 b (8 * b + 8) := by
  intro d
  induction d with
  | zero =>
    intro i n c w hi hn hlo h
    obtain ⟨n, rfl, hn⟩ := succ_of hn
    refine ⟨w, ?_, by rw [← hi]; exact h⟩
    rw [k_Sh_freeUnreached_7, b8, if_pos (nI_le (by omega) (by omega))]
    rfl
  | succ d ih =>
    intro i n c w hi hn hlo h
    obtain ⟨n, rfl, hn⟩ := succ_of hn
    have w3 : w 3 i = u 3 i := by rw [(h.2 i).1, if_neg (by omega)]
    have w14 : w 14 = u 14 := h.1 14 (by decide) (by decide) (by decide)
    by_cases h3 : u 3 i = 0
    · obtain ⟨w2, a1, a2⟩ := ih (i + 1) n c w (by omega) (by omega) (by omega) (h.skip (fun z => z.1 h3))
      refine ⟨w2, ?_, a2⟩
      rw [k_Sh_freeUnreached_7, b8, if_neg (nI_ge (by omega) (by omega)), isTaken_eq (by omega), bd_some, w3, if_pos h3, if_pos rfl, nI_1, a1, cnF, if_neg (fun z => z.1 h3), Nat.zero_add]
    · by_cases hm : u 14 i = -1
      · obtain ⟨w2, a1, a2⟩ := ih (i + 1) n (c + 1) _ (by omega) (by omega) (by omega) (h.step hlo ⟨h3, hm⟩)
        refine ⟨w2, ?_, a2⟩
        rw [k_Sh_freeUnreached_7, b8, if_neg (nI_ge (by omega) (by omega)), isTaken_eq (by omega), bd_some, w3, if_neg h3, if_neg (by decide), gdN (by omega) (by omega), w14, nI_clamp (by omega), if_pos hm, free_eq hN (by omega), bd_some, nI_1, nI_1, a1, cnF, if_pos ⟨h3, hm⟩, Nat.add_assoc]
      · obtain ⟨w2, a1, a2⟩ := ih (i + 1) n c w (by omega) (by omega) (by omega) (h.skip (fun z => hm z.2))
        refine ⟨w2, ?_, a2⟩
        rw [k_Sh_freeUnreached_7, b8, if_neg (nI_ge (by omega) (by omega)), isTaken_eq (by omega), bd_some, w3, if_neg h3, if_neg (by decide), gdN (by omega) (by omega), w14, nI_clamp (by omega), if_neg hm, nI_1, a1, cnF, if_neg (fun z => hm z.2), Nat.zero_add]
theorem freeM_loop {N M b : Nat} {κ : Int32 → Int32 → Mem → Rs} {u : Mem} (hM : u 15 1 = nI M) (hM2 : M ≤ 512) : ∀ (d i n c : Nat) (w : Mem), i + d = M + 1 → d < n → 1 ≤ i → rmE u w 16 (fun k => u 16 k = nI b ∧ ¬ 0 ≤ u 24 k) 1 i → ∃ w2, k_Md_collect_114 N κ n (nI b) (nI c) (nI i) w = κ (nI b) (nI (c + cnF (fun k => u 16 k = nI b ∧ ¬ 0 ≤ u 24 k) i d)) w2 ∧ rmE u w2 16 (fun k => u 16 k = nI b ∧ ¬ 0 ≤ u 24 k) 1 (M + 1) := by
  intro d
  induction d with
  | zero =>
    intro i n c w hi hn h1 h
    obtain ⟨n, rfl, hn⟩ := succ_of hn
    refine ⟨w, ?_, by rw [show M + 1 = i by omega]; exact h⟩
    rw [k_Md_collect_114, h.1 15 (by decide), hM, if_pos (nI_lt (by omega) (by omega))]
    rfl
  | succ d ih =>
    intro i n c w hi hn h1 h
    obtain ⟨n, rfl, hn⟩ := succ_of hn
    have w16 : w 16 i = u 16 i := by rw [h.2, if_neg (by omega)]
    have w24 := h.1 24 (by decide)
    have head : k_Md_collect_114 N κ (n + 1) (nI b) (nI c) (nI i) w = if u 16 i = nI b then (if 0 ≤ u 24 i then k_Md_collect_114 N κ n (nI b) (nI c) (nI (i + 1)) w else k_Md_collect_114 N κ n (nI b) (nI (c + 1)) (nI (i + 1)) (stM w 16 i (-1))) else k_Md_collect_114 N κ n (nI b) (nI c) (nI (i + 1)) w := by
      rw [k_Md_collect_114, h.1 15 (by decide), hM, if_neg (nI_nlt (by omega) (by omega)), gdN (by omega) (by omega)]
      simp (disch := omega) only [nI_clamp, gdN, nI_1, jn]
      rw [w16, w24]
    by_cases ho : u 16 i = nI b
    · by_cases h0 : 0 ≤ u 24 i
      · obtain ⟨w2, a1, a2⟩ := ih (i + 1) n c w (by omega) (by omega) (by omega) (rmE_skip h (fun z => z.2 h0))
        refine ⟨w2, ?_, a2⟩
        rw [head, if_pos ho, if_pos h0, a1, cnF, if_neg (fun z => z.2 h0), Nat.zero_add]
      · obtain ⟨w2, a1, a2⟩ := ih (i + 1) n (c + 1) _ (by omega) (by omega) (by omega) (rmE_step h h1 ⟨ho, h0⟩)
        refine ⟨w2, ?_, a2⟩
        rw [head, if_pos ho, if_neg h0, a1, cnF, if_pos ⟨ho, h0⟩, Nat.add_assoc]
    · obtain ⟨w2, a1, a2⟩ := ih (i + 1) n c w (by omega) (by omega) (by omega) (rmE_skip h (fun z => ho z.1))
      refine ⟨w2, ?_, a2⟩
      rw [head, if_neg ho, a1, cnF, if_neg (fun z => ho z.1), Nat.zero_add]
