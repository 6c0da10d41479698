/-! Pure: spread, and the reference's while loop. -/
theorem SI.next {u : Mem} {b M : Nat} {w0 : Mem} {k : Nat} {mo : Int32} {w : Mem} (h : SI u b M w0 k 2 mo w) : SI u b M w0 (k + 1) 0 mo w := by
  refine ⟨h.1, ?_⟩
  rcases h.2 with ⟨h1, h2, h3⟩ | h1
  · exact Or.inl ⟨h1, h2, fun k' f' x q1 q2 q3 => h3 k' f' x q1 (by omega) q3⟩
  · exact Or.inr h1
theorem SI.other {u : Mem} {b M : Nat} {w0 : Mem} {k : Nat} {mo : Int32} {w : Mem} (h : SI u b M w0 k 0 mo w) (ho : ¬ u 16 k = nI b) : SI u b M w0 (k + 1) 0 mo w := by
  refine ⟨h.1, ?_⟩
  rcases h.2 with ⟨h1, h2, h3⟩ | h1
  · refine Or.inl ⟨h1, h2, fun k' f' x q1 q2 q3 => ?_⟩
    by_cases e : k' = k
    · rw [e] at q3
      exact absurd q3.1.2.2 ho
    · exact h3 k' f' x q1 (by omega) q3
  · exact Or.inr h1
theorem spread_loop {N M b : Nat} {κ : Int32 → Mem → Rs} {u w0 : Mem} (hN : 600 ≤ N) (hb : b < 3) (hM : u 15 1 = nI M) (hM2 : M ≤ 512) (hneg : ∀ j, 1 ≤ j → j ≤ M → u 16 j < 0 → ¬ u 16 j = nI b) : ∀ (d k n : Nat) (mo : Int32) (w : Mem), k + d = M + 1 → d < n → 1 ≤ k → (∀ p, ¬ p = 24 → w p = u p) → SI u b M w0 k 0 mo w → ∃ mo' w', k_Md_spread_4 N κ n (nI b) mo (nI k) w = κ mo' w' ∧ SI u b M w0 (M + 1) 0 mo' w' ∧ ∀ p, ¬ p = 24 → w' p = u p := by
  intro d
  induction d with
  | zero =>
    intro k n mo w hk hn h1 hw hs
    obtain ⟨n, rfl, hn⟩ := succ_of hn
    refine ⟨mo, w, ?_, by rw [show M + 1 = k by omega]; exact hs, hw⟩
    rw [k_Md_spread_4, hw 15 (by decide), hM, if_pos (nI_lt (by omega) (by omega))]
  | succ d ih =>
    intro k n mo w hk hn h1 hw hs
    obtain ⟨n, rfl, hn⟩ := succ_of hn
    obtain ⟨N1, f1, -⟩ := succ_of (show 2 < N by omega)
    obtain ⟨N2, f2, -⟩ := succ_of (show 1 < N1 by omega)
    obtain ⟨N3, f3, -⟩ := succ_of (show 0 < N2 by omega)
    have eN : N = N3 + 1 + 1 + 1 := by omega
    have w16 := hw 16 (by decide)
    have inner : ∃ mo' w', k_Md_spread_15 N (fun (x25 x26 x27 : Int32) (u28 : Mem) => k_Md_spread_4 N κ n x25 x26 (x27 + 1) u28) N (nI b) mo (nI k) 0 w = k_Md_spread_4 N κ n (nI b) mo' (nI (k + 1)) w' ∧ SI u b M w0 (k + 1) 0 mo' w' ∧ ∀ p, ¬ p = 24 → w' p = u p := by
      rw [show ∀ κ' : Int32 → Int32 → Int32 → Mem → Rs, k_Md_spread_15 N κ' N (nI b) mo (nI k) 0 w = k_Md_spread_15 N κ' (N3 + 1 + 1 + 1) (nI b) mo (nI k) (nI 0) w from fun κ' => by rw [← eN]; rfl]
      by_cases ho : u 16 k = nI b
      · obtain ⟨mo1, w1, a1, a2, a3⟩ := spread_f (N := N) (κ := fun (x25 x26 x27 : Int32) (u28 : Mem) => k_Md_spread_4 N κ n x25 x26 (x27 + 1) u28) hb hM hM2 hneg hw ⟨h1, by omega⟩ ho (by omega) hs (N3 + 1 + 1)
        obtain ⟨mo2, w2, c1, c2, c3⟩ := spread_f (N := N) (κ := fun (x25 x26 x27 : Int32) (u28 : Mem) => k_Md_spread_4 N κ n x25 x26 (x27 + 1) u28) hb hM hM2 hneg a3 ⟨h1, by omega⟩ ho (by omega) a2 (N3 + 1)
        refine ⟨mo2, w2, ?_, c2.next, c3⟩
        rw [a1, c1, k_Md_spread_15, if_pos (show (2 : Int32) ≤ nI (0 + 1 + 1) by decide), nI_1]
      · refine ⟨mo, w, ?_, hs.other ho, hw⟩
        rw [k_Md_spread_15, if_neg (by decide), gdN (by omega) (by omega), w16]
        simp (disch := omega) only [nI_clamp]
        rw [if_neg ho, nI_1]
    obtain ⟨mo1, w1, a1, a2, a3⟩ := inner
    obtain ⟨mo', w', c1, c2, c3⟩ := ih (k + 1) n mo1 w1 (by omega) (by omega) (by omega) a3 a2
    refine ⟨mo', w', ?_, c2, c3⟩
    rw [k_Md_spread_4, hw 15 (by decide), hM, if_neg (nI_nlt (by omega) (by omega)), a1]
    exact c1
theorem spread_eq {N M b : Nat} {u w : Mem} (hN : 600 ≤ N) (hb : b < 3) (hM : u 15 1 = nI M) (hM2 : M ≤ 512) (hneg : ∀ j, 1 ≤ j → j ≤ M → u 16 j < 0 → ¬ u 16 j = nI b) (hw : ∀ p, ¬ p = 24 → w p = u p) : ∃ mo w', f_Md_spread N (nI b) w = some (mo, w') ∧ upM u b M w w' ∧ (∀ p, ¬ p = 24 → w' p = u p) ∧ ((mo = 0 ∧ w' = w ∧ ∀ k f x, f < 2 → edgeF u b M k f x → (w 24 k).toInt ≤ (w 24 x).toInt) ∨ (mo = 1 ∧ sB w M < sB w' M)) := by
  obtain ⟨mo, w', a1, a2, a3⟩ := spread_loop (N := N) (κ := fun (x30 : Int32) (u31 : Mem) => gd (x30 = 0 ∨ x30 = 1) (some (x30, u31))) (w0 := w) hN hb hM hM2 hneg M 1 N 0 w (by omega) (by omega) (Nat.le_refl _) hw ⟨upM.rf, Or.inl ⟨rfl, rfl, fun k' f' x q1 q2 q3 => by have := q3.1.1; omega⟩⟩
  refine ⟨mo, w', ?_, a2.1, a3, ?_⟩
  · unfold f_Md_spread
    rw [show k_Md_spread_4 N _ N (nI b) 0 1 w = _ from a1]
    exact gd_t (a2.2.elim (fun z => Or.inl z.1) (fun z => Or.inr z.1))
  · rcases a2.2 with ⟨q1, q2, q3⟩ | q
    · exact Or.inl ⟨q1, q2, fun k f x hf he => q3 k f x hf (by have := he.1.2.1; omega) he⟩
    · exact Or.inr q
theorem while_loop {N M b T : Nat} {κ : Int32 → Mem → Rs} {u w0 : Mem} (hN : 600 ≤ N) (hb : b < 3) (hM : u 15 1 = nI M) (hM2 : M ≤ 512) (hneg : ∀ j, 1 ≤ j → j ≤ M → u 16 j < 0 → ¬ u 16 j = nI b) (hT : ∀ j, 1 ≤ j → j ≤ M → (w0 24 j).toInt ≤ T) : ∀ (m n : Nat) (w : Mem), ((M * T : Nat) : Int) - sB w M ≤ m → m + 1 < n → (∀ p, ¬ p = 24 → w p = u p) → upM u b M w0 w → ∃ w', k_Md_collect_96 N κ n (nI b) 1 w = κ (nI b) w' ∧ upM u b M w0 w' ∧ (∀ p, ¬ p = 24 → w' p = u p) ∧ ∀ k f x, f < 2 → edgeF u b M k f x → (w' 24 k).toInt ≤ (w' 24 x).toInt := by
  intro m
  induction m with
  | zero =>
    intro n w hm hn hw hup
    obtain ⟨n, rfl, hn⟩ := succ_of (show 0 < n by omega)
    obtain ⟨n, rfl, hn⟩ := succ_of (show 0 < n by omega)
    obtain ⟨mo, w', a1, a2, a3, a4⟩ := spread_eq (N := N) hN hb hM hM2 hneg hw
    rw [k_Md_collect_96, if_neg (by decide), a1, bd_some]
    rcases a4 with ⟨q1, q2, q3⟩ | ⟨q1, q2⟩
    · refine ⟨w', ?_, hup.tr a2, a3, by rw [q2]; exact q3⟩
      rw [q1, k_Md_collect_96, if_pos rfl]
    · have h9 := sB_le (T := T) M ((hup.tr a2).2.2.2 (fun x => x.toInt ≤ T) hT)
      omega
  | succ m ih =>
    intro n w hm hn hw hup
    obtain ⟨n, rfl, hn⟩ := succ_of (show 0 < n by omega)
    obtain ⟨mo, w', a1, a2, a3, a4⟩ := spread_eq (N := N) hN hb hM hM2 hneg hw
    rw [k_Md_collect_96, if_neg (by decide), a1, bd_some]
    rcases a4 with ⟨q1, q2, q3⟩ | ⟨q1, q2⟩
    · obtain ⟨n, rfl, hn⟩ := succ_of (show 0 < n by omega)
      refine ⟨w', ?_, hup.tr a2, a3, by rw [q2]; exact q3⟩
      rw [q1, k_Md_collect_96, if_pos rfl]
    · rw [q1]
      exact ih n w' (by omega) (by omega) a3 (hup.tr a2)
