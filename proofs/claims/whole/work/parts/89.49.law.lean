/-! Pure: the beginning, and the law's loop. -/
theorem init_mix {uS uM : Mem} (hS : (∀ q, ¬ q = 5 → ¬ q = 13 → uS q = fun _ => 0) ∧ (∀ j, j < 24 → uS 5 j = -1) ∧ ∀ j, j < 3 → uS 13 j = 2147483647) (hM : (∀ q, ¬ q = 22 → uM q = fun _ => 0) ∧ ∀ j, j < 3 → uM 22 j = 2147483647) : Sim 0 (mixM 15 24 uM (mixM 0 14 uS z0)) := by
  obtain ⟨u, hu⟩ : ∃ u, u = mixM 15 24 uM (mixM 0 14 uS z0) := ⟨_, rfl⟩
  rw [← hu]
  have lo : ∀ q, q < 15 → u q = uS q := fun q hq => by
    rw [hu]
    unfold mixM
    rw [if_neg (by omega), if_pos (by omega)]
  have hi : ∀ q, 15 ≤ q → q ≤ 24 → u q = uM q := fun q h1 h2 => by
    rw [hu]
    unfold mixM
    rw [if_pos ⟨h1, h2⟩]
  have l0 : ∀ q, q < 15 → ¬ q = 5 → ¬ q = 13 → ∀ j, u q j = 0 := fun q h1 h2 h3 j => by rw [lo q h1, hS.1 q h2 h3]
  have h0 : ∀ q, 15 ≤ q → q ≤ 24 → ¬ q = 22 → ∀ j, u q j = 0 := fun q h1 h2 h3 j => by rw [hi q h1 h2, hM.1 q h3]
  have t0 : (0 : Int32).toInt = 0 := by decide
  refine ⟨0, 0, 0, 0, ⟨⟨by omega, by omega, by omega, by omega, by omega⟩, l0 0 (by decide) (by decide) (by decide) 7, h0 15 (by decide) (by decide) (by decide) 0, l0 2 (by decide) (by decide) (by decide) 3, h0 15 (by decide) (by decide) (by decide) 1, l0 10 (by decide) (by decide) (by decide) 1, h0 15 (by decide) (by decide) (by decide) 10, l0 6 (by decide) (by decide) (by decide) 3, by rw [h0 15 (by decide) (by decide) (by decide), l0 0 (by decide) (by decide) (by decide)]⟩, fun j _ => by rw [h0 19 (by decide) (by decide) (by decide), l0 1 (by decide) (by decide) (by decide)], fun n hn => ?_, ⟨fun i hi => by omega, fun i hi => by omega⟩, ⟨fun s s' _ _ _ hz => absurd (l0 3 (by decide) (by decide) (by decide) s) hz, fun s _ => ⟨0, Nat.le_refl _, l0 3 (by decide) (by decide) (by decide) s⟩, fun s k _ h1 h2 => by omega, fun k h1 h2 => by omega, fun s hs _ => ⟨by rw [lo 5 (by decide)]; exact hS.2.1 s hs, l0 4 (by decide) (by decide) (by decide) _, l0 4 (by decide) (by decide) (by decide) _⟩, fun s hs => Or.inl (by rw [lo 5 (by decide)]; exact hS.2.1 s hs), fun k _ _ => ⟨h0 18 (by decide) (by decide) (by decide) _, h0 18 (by decide) (by decide) (by decide) _⟩⟩, ⟨fun i hi => by omega, fun i j _ hj => by omega, fun i j hi => by omega, fun b k _ _ => Or.inr (by rw [h0 20 (by decide) (by decide) (by decide), t0]; exact Int.le_refl _), fun b _ => Nat.zero_le _⟩⟩
  rw [h0 21 (by decide) (by decide) (by decide), l0 12 (by decide) (by decide) (by decide), hi 22 (by decide) (by decide), hM.2 n hn, lo 13 (by decide), hS.2.2 n hn, l0 0 (by decide) (by decide) (by decide), t0]
  exact ⟨rfl, rfl, Int.le_refl _, by omega, Int.le_refl _⟩
theorem law_pure {N L : Nat} {xs : Nat → Int32} (hN : 300000 ≤ N) (hL : L ≤ 2560) : ∀ (d c n : Nat) (u : Mem), L ≤ 5 * (c + d) → d < n → 5 * c ≤ L → Sim c u → ∃ w, k_La_law_18 N xs L (fun (v : Mem) => some (1, v)) n (nI (5 * c)) u = some (1, w) := by
  have hsub : (nI L - 5).toInt = (L : Int) - 5 := pk_sub_toInt (b := 5) (by omega) (by omega)
  intro d
  induction d with
  | zero =>
    intro c n u h1 h2 h3 h
    obtain ⟨n, rfl, hn⟩ := succ_of h2
    refine ⟨u, ?_⟩
    rw [k_La_law_18, if_pos (by rw [ti_lt, hsub, nI_toInt (by omega)]; omega)]
  | succ d ih =>
    intro c n u h1 h2 h3 h
    obtain ⟨n, rfl, hn⟩ := succ_of h2
    by_cases hend : 5 * c + 5 ≤ L
    · have hc : c + 1 ≤ 512 := by omega
      have h' := h.more hc
      have a1 : nI (5 * c) + 1 = nI (5 * c + 1) := nI_1 _
      have a2 : nI (5 * c) + 2 = nI (5 * c + 2) := nI_add _ 2
      have a3 : nI (5 * c) + 3 = nI (5 * c + 3) := nI_add _ 3
      have a4 : nI (5 * c) + 4 = nI (5 * c + 4) := nI_add _ 4
      have a5 : nI (5 * c) + 5 = nI (5 * (c + 1)) := nI_add _ 5
      have fin : ∀ (o1 : Rs) (o2 : Mem → Rs), Good (c + 1) o1 o2 → ∃ w, bd o1 (fun y v => bd (o2 v) (fun y' v' => if y = y' then k_La_law_18 N xs L (fun (v : Mem) => some (1, v)) n (nI (5 * (c + 1))) v' else some (0, v'))) = some (1, w) := by
        intro o1 o2 ⟨r, w1, w2, g1, g2, g3⟩
        obtain ⟨w, hw⟩ := ih (c + 1) n w2 (by omega) (by omega) (by omega) g3
        refine ⟨w, ?_⟩
        rw [g1, bd_some, g2, bd_some, if_pos rfl]
        exact hw
      rw [k_La_law_18, if_neg (by rw [ti_lt, hsub, nI_toInt (by omega)]; omega)]
      rw [gdN (by omega) (by omega)]
      by_cases e0 : xs (nI (5 * c)).toNatClampNeg &&& 31 = 0
      · rw [if_pos e0]
        simp (disch := omega) only [a1, a2, a3, a4, a5, gdN, nI_clamp]
        exact fin _ _ (g_make h hc (by omega) _ _ _)
      rw [if_neg e0]
      by_cases e1 : xs (nI (5 * c)).toNatClampNeg &&& 31 = 1
      · rw [if_pos e1]
        simp (disch := omega) only [a1, a2, a3, a4, a5, gdN, nI_clamp]
        exact fin _ _ (g_load h hc (by omega) _ _ _ _)
      rw [if_neg e1]
      by_cases e2 : xs (nI (5 * c)).toNatClampNeg &&& 31 = 2
      · rw [if_pos e2]
        simp (disch := omega) only [a1, a2, a3, a4, a5, gdN, nI_clamp]
        exact fin _ _ (g_store h hc (by omega) _ _ _ _)
      rw [if_neg e2]
      by_cases e3 : xs (nI (5 * c)).toNatClampNeg &&& 31 = 3
      · rw [if_pos e3]
        simp (disch := omega) only [a1, a2, a3, a4, a5, gdN, nI_clamp]
        exact fin _ _ (g_move h hc (by omega) _ _ _ _)
      rw [if_neg e3]
      by_cases e4 : xs (nI (5 * c)).toNatClampNeg &&& 31 = 4
      · rw [if_pos e4]
        simp (disch := omega) only [a1, a2, a3, a4, a5, gdN, nI_clamp]
        exact fin _ _ (g_drop h hc (by omega) _ _)
      rw [if_neg e4]
      by_cases e5 : xs (nI (5 * c)).toNatClampNeg &&& 31 = 5
      · rw [if_pos e5]
        simp (disch := omega) only [a1, a2, a3, a4, a5, gdN, nI_clamp]
        exact fin _ _ (g_collect h hc hN _)
      rw [if_neg e5]
      by_cases e6 : xs (nI (5 * c)).toNatClampNeg &&& 31 = 6
      · rw [if_pos e6]
        simp (disch := omega) only [a1, a2, a3, a4, a5, gdN, nI_clamp]
        exact fin _ _ (g_deliver h hc (by omega) _)
      rw [if_neg e6]
      by_cases e7 : xs (nI (5 * c)).toNatClampNeg &&& 31 = 7
      · rw [if_pos e7]
        simp (disch := omega) only [a1, a2, a3, a4, a5, gdN, nI_clamp]
        exact fin _ _ (g_round h hc (by omega))
      rw [if_neg e7]
      by_cases e8 : xs (nI (5 * c)).toNatClampNeg &&& 31 = 8
      · rw [if_pos e8]
        simp (disch := omega) only [a1, a2, a3, a4, a5, gdN, nI_clamp]
        exact fin _ _ (g_root h' (by omega) _ _)
      rw [if_neg e8]
      by_cases e9 : xs (nI (5 * c)).toNatClampNeg &&& 31 = 9
      · rw [if_pos e9]
        simp (disch := omega) only [a1, a2, a3, a4, a5, gdN, nI_clamp]
        exact fin _ _ (g_field h' (by omega) _ _)
      rw [if_neg e9]
      by_cases e10 : xs (nI (5 * c)).toNatClampNeg &&& 31 = 10
      · rw [if_pos e10]
        simp (disch := omega) only [a1, a2, a3, a4, a5, gdN, nI_clamp]
        exact fin _ _ (g_owner h' (by omega) _)
      rw [if_neg e10]
      by_cases e11 : xs (nI (5 * c)).toNatClampNeg &&& 31 = 11
      · rw [if_pos e11]
        simp (disch := omega) only [a1, a2, a3, a4, a5, gdN, nI_clamp]
        exact fin _ _ (g_objects h' (by omega) _)
      rw [if_neg e11]
      by_cases e12 : xs (nI (5 * c)).toNatClampNeg &&& 31 = 12
      · rw [if_pos e12]
        simp (disch := omega) only [a1, a2, a3, a4, a5, gdN, nI_clamp]
        exact fin _ _ (g_entry h' (by omega) _)
      rw [if_neg e12]
      by_cases e13 : xs (nI (5 * c)).toNatClampNeg &&& 31 = 13
      · rw [if_pos e13]
        simp (disch := omega) only [a1, a2, a3, a4, a5, gdN, nI_clamp]
        exact fin _ _ (g_exit h' (by omega) _ _)
      rw [if_neg e13]
      by_cases e14 : xs (nI (5 * c)).toNatClampNeg &&& 31 = 14
      · rw [if_pos e14]
        simp (disch := omega) only [a1, a2, a3, a4, a5, gdN, nI_clamp]
        exact fin _ _ (g_messages h')
      rw [if_neg e14]
      by_cases e15 : xs (nI (5 * c)).toNatClampNeg &&& 31 = 15
      · rw [if_pos e15]
        simp (disch := omega) only [a1, a2, a3, a4, a5, gdN, nI_clamp]
        exact fin _ _ (g_message h' _ _)
      rw [if_neg e15]
      by_cases e16 : xs (nI (5 * c)).toNatClampNeg &&& 31 = 16
      · rw [if_pos e16]
        simp (disch := omega) only [a1, a2, a3, a4, a5, gdN, nI_clamp]
        exact fin _ _ (g_redo h' (by omega) _)
      rw [if_neg e16]
      by_cases e17 : xs (nI (5 * c)).toNatClampNeg &&& 31 = 17
      · rw [if_pos e17]
        simp (disch := omega) only [a1, a2, a3, a4, a5, gdN, nI_clamp]
        exact fin _ _ (g_threshold h')
      rw [if_neg e17, a5]
      exact ih (c + 1) n u (by omega) (by omega) (by omega) h'
    · refine ⟨u, ?_⟩
      rw [k_La_law_18, if_pos (by rw [ti_lt, hsub, nI_toInt (by omega)]; omega)]
theorem pure_main {L : Nat} {xs : Nat → Int32} (hL : L ≤ 2560) {u : Mem} (h : Sim 0 u) : ∃ w, k_La_law_18 300000 xs L (fun (v : Mem) => some (1, v)) 300000 0 u = some (1, w) :=
  law_pure (N := 300000) (by omega) hL 512 0 300000 u (by omega) (by omega) (by omega) h
