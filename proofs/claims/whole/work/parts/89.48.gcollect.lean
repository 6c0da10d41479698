theorem freeC_eq {N b : Nat} {w : Mem} (hN : 600 ≤ N) (hb : b < 3) : ∃ w2, f_Sh_freeUnreached N (nI b) w = some (nI (cnF (fun s => ¬ w 3 s = 0 ∧ w 14 s = -1) (8 * b) 8), w2) ∧ frR w w2 b (8 * b + 8) := by
  unfold f_Sh_freeUnreached
  rw [b8']
  obtain ⟨w2, a1, a2⟩ := freeC_loop (N := N) (κ := fun x v => some (x, v)) (u := w) hN hb 8 (8 * b) N 0 w rfl (by omega) (Nat.le_refl _) ⟨fun _ _ _ _ => rfl, fun j => ⟨by rw [if_neg (by omega)], by rw [if_neg (by omega)], by rw [if_neg (by omega)]⟩⟩
  rw [Nat.zero_add] at a1
  exact ⟨w2, a1, a2⟩
theorem g_collect {c N : Nat} {u : Mem} (h : Sim c u) (hc : c + 1 ≤ 512) (hN : 300000 ≤ N) (a : Int32) : Good (c + 1) (f_Sh_collect N a u) (f_Md_collect N a) := by
  rcases out_or a (n := 3) (by omega) with ha | ⟨b, hb, rfl⟩
  · refine good_same (r := -1) (h.more hc) ?_ ?_
    · unfold f_Sh_collect; rw [isNode_f ha, bd_some, if_pos rfl]
    · unfold f_Md_collect; rw [within_f (n := 3) (by decide) (by omega) ha, bd_some, if_pos rfl]
  obtain ⟨t, M, S, X, h⟩ := h
  have hM := h.1.1
  have e1 := h.1.2.1
  have e2 := h.1.2.2.1
  have e4 := h.1.2.2.2.2.1
  have e5 := h.1.2.2.2.2.2.1
  have e6 := h.1.2.2.2.2.2.2.1
  have e7 := h.1.2.2.2.2.2.2.2.1
  have hqs : f_Qu_size N u = some (nI S, u) := by unfold f_Qu_size; rw [e5]
  have hcle := cnF_le (fun i => u 7 i = nI b) X 0
  have hcnt := cnt_exits h hb
  by_cases hcap : S + cnF (fun i => u 7 i = nI b) 0 X ≤ 40
  · -- the reference's stamps
    obtain ⟨mu, hmu⟩ : ∃ mu, mu = stM u 15 0 (nI (t + 1)) := ⟨_, rfl⟩
    have muo : ∀ q, ¬ q = 15 → mu q = u q := fun q hq => by rw [hmu, stM_ne hq]
    have h17 : ∀ k, 1 ≤ k → k ≤ M → u 16 k = nI b → u 17 k = -1 ∨ (0 ≤ (u 17 k).toInt ∧ (u 17 k).toInt ≤ ((t + 1 : Nat) : Int)) := by
      intro k k1 k2 ko
      rcases h.2.2.2.2.1.2.2.2.1 k k1 k2 with z | ⟨s, s1, s2⟩
      · rw [ko] at z
        exact absurd z (m1_ne (by omega))
      · rw [(h.2.2.2.2.1.2.2.1 s k s1 k1 k2 s2).2.1]
        rcases h.2.2.2.2.1.2.2.2.2.2.1 s s1 with e | e
        · exact Or.inl e
        · exact Or.inr ⟨e.1, by omega⟩
    have hneg : ∀ j, 1 ≤ j → j ≤ M → u 16 j < 0 → ¬ u 16 j = nI b := fun j _ _ hl e => by
      rw [e] at hl
      exact nI_pos (by omega) hl
    obtain ⟨wb, -, -, hB, hBok⟩ := best_run (N := N) (t := t + 1) (κ := fun _ v => some (0, v)) (m := mu) hN hb (by rw [hmu, stM_rs, if_neg (by decide)]; exact e4) (by omega) (by omega) (by rw [muo 16 (by decide)]; exact hneg) (by rw [hmu, stM_rs, if_pos rfl]) (by rw [muo 16 (by decide), muo 17 (by decide)]; exact h17)
    obtain ⟨B, hBe⟩ : ∃ B, B = wb 24 := ⟨_, rfl⟩
    rw [← hBe] at hB hBok
    -- the class's
    obtain ⟨u1, hu1⟩ : ∃ u1, u1 = stM u 0 7 (nI (t + 1)) := ⟨_, rfl⟩
    have u1o : ∀ q, ¬ q = 0 → u1 q = u q := fun q hq => by rw [hu1, stM_ne hq]
    have u10 : u1 0 7 = nI (t + 1) := by rw [hu1, stM_rs, if_pos rfl]
    have u108 : u1 0 8 = u 0 8 := by rw [hu1, stM_rs, if_neg (by decide)]
    obtain ⟨w0, w1, a1, a2, a3, a4, a5, a6⟩ := reach_link (N := N) (u1 := u1) (m := mu) (by omega) h hb u10 u1o hB (by rw [hmu, stM_rs, if_pos rfl]) (muo 16 (by decide)) (muo 17 (by decide)) (muo 18 (by decide)) (muo 19 (by decide))
    have w1o : ∀ q, ¬ q = 0 → ¬ q = 14 → w1 q = u q := fun q b0 b14 => (a3 q b14).trans (u1o q b0)
    have w10 : w1 0 = u1 0 := a3 0 (by decide)
    have w107 : w1 0 7 = nI (t + 1) := by rw [w10, u10]
    have hok : ∀ j, 8 * b ≤ j → j < 8 * b + 8 → w1 14 j = -1 ∨ (0 ≤ (w1 14 j).toInt ∧ (w1 14 j).toInt ≤ ((t + 1 : Nat) : Int)) := by
      intro j j1 j2
      obtain ⟨k, k1, k2⟩ := h.2.2.2.2.1.2.1 j (by omega)
      rcases Nat.eq_zero_or_pos k with z | z
      · exact Or.inl (a4 j j1 j2 (by rw [k2, z]; rfl))
      · rw [a5 j k j1 j2 z k1 k2]
        exact hBok k z k1
    have hge : ∀ j, 8 * b ≤ j → j < 8 * b + 8 → -1 ≤ (w1 14 j).toInt := by
      intro j j1 j2
      rcases hok j j1 j2 with e | e
      · rw [e, m1_ti]; exact Int.le_refl _
      · omega
    have hVex : ∀ o, ∃ v, gvC w1 b o v := fun o => by
      obtain ⟨v, -, q⟩ := roe_eq (N := N) (o := o) (w := w1) (by omega) hb
      exact ⟨v, q⟩
    obtain ⟨V, hV⟩ := Classical.axiomOfChoice hVex
    have hVok : ∀ o, V o = -1 ∨ (0 ≤ (V o).toInt ∧ (V o).toInt ≤ ((t + 1 : Nat) : Int)) := fun o => gv_ok (t := t + 1) (by omega) w107 hok (hV o)
    have hRw : Rw w1 (rowsL u X) := by
      obtain ⟨q1, q2, q3⟩ := rowsL_Rw (u := u) e7 (by omega)
      exact ⟨q1, by rw [w1o 6 (by decide) (by decide)]; exact q2, by rw [w1o 7 (by decide) (by decide), w1o 8 (by decide) (by decide), w1o 9 (by decide) (by decide)]; exact q3⟩
    obtain ⟨w2, c1, c2, c3⟩ := take_eq (N := N) (by omega) hb hge hV hRw
    obtain ⟨Q, hQe⟩ : ∃ Q, Q = msgsL u S := ⟨_, rfl⟩
    have hQl : Q.length = S := by rw [hQe, msgsL_len]
    have hQ11 : Qw u 11 Q := by
      intro i m hm
      rw [hQe] at hm
      obtain ⟨-, rfl⟩ := msgsL_at hm
      exact ⟨rfl, rfl, rfl, rfl⟩
    have hQ23 : Qw u 23 Q := by
      intro i m hm
      rw [hQe] at hm
      obtain ⟨hi, rfl⟩ := msgsL_at hm
      have q := h.2.2.2.1.1
      exact ⟨q _ (by omega), q _ (by omega), q _ (by omega), q _ (by omega)⟩
    have capr := cap_rows (u := u) (b := b) (V := V) X
    obtain ⟨w3, d1, d2, d3, d4, d5, d6⟩ := stamp_eq (N := N) (w := w2) (Q := Q) (by omega) hb hge hV c2 (by rw [c3 10 (by decide), w1o 10 (by decide) (by decide), hQl]; exact e5) (by unfold Qw; rw [c3 11 (by decide), w1o 11 (by decide) (by decide)]; exact hQ11) (by omega) (fun q hq => c3 q (by omega))
    have w3o : ∀ q, ¬ q = 0 → ¬ q = 14 → ¬ (6 ≤ q ∧ q ≤ 11) → w3 q = u q := fun q b0 b14 b6 => (d5 q b6).trans (w1o q b0 b14)
    obtain ⟨w4, f1, f2⟩ := freeC_eq (N := N) (w := w3) (by omega) hb
    have g3 : w3 3 = u 3 := w3o 3 (by decide) (by decide) (by decide)
    have g14 : w3 14 = w1 14 := d5 14 (by decide)
    have g4 : w3 4 = u 4 := w3o 4 (by decide) (by decide) (by decide)
    have g5 : w3 5 = u 5 := w3o 5 (by decide) (by decide) (by decide)
    unfold frR at f2
    rw [g3, g4, g5, g14] at f2
    rw [g3, g14] at f1
    have w4o : ∀ q, ¬ q = 3 → ¬ q = 4 → ¬ q = 5 → w4 q = w3 q := f2.1
    have w40 : w4 0 = u1 0 := (w4o 0 (by decide) (by decide) (by decide)).trans ((d5 0 (by decide)).trans w10)
    have w407 : w4 0 7 = nI (t + 1) := by rw [w40]; exact u10
    obtain ⟨w5, hw5⟩ : ∃ w5, w5 = stM (stM w4 12 b (nI (t + 1))) 13 b 2147483647 := ⟨_, rfl⟩
    have cls : f_Sh_collect N (nI b) u = some (nI (cnF (fun s => ¬ u 3 s = 0 ∧ w1 14 s = -1) (8 * b) 8), w5) := by
      unfold f_Sh_collect
      dsimp only [jn]
      rw [isNode_t hb, bd_some, if_neg (by decide), hqs, bd_some, countOf_eq (by omega) e7 (by omega), bd_some, nI_add, if_pos (show nI _ ≤ (40 : Int32) from nI_le (b := 40) hcap (by omega)), e1, nI_1, ← hu1, a1, bd_some, a2, bd_some, c1, bd_some, d1, bd_some, f1, bd_some, gdN hb (by omega), gdN hb (by omega), nI_clamp (by omega), w407, ← hw5]
    have w5hi : ∀ q, 15 ≤ q → w5 q = u q := fun q hq => by
      rw [hw5, stM_ne (by omega), stM_ne (by omega), w4o q (by omega) (by omega) (by omega)]
      exact w3o q (by omega) (by omega) (by omega)
    -- the reference from there
    obtain ⟨m1, hm1⟩ : ∃ m1, m1 = stM w5 15 0 (nI (t + 1)) := ⟨_, rfl⟩
    have m1o : ∀ q, 15 ≤ q → ¬ q = 15 → m1 q = u q := fun q hq h15 => by rw [hm1, stM_ne h15]; exact w5hi q hq
    have m115 : ∀ j, m1 15 j = if j = 0 then nI (t + 1) else u 15 j := fun j => by rw [hm1, stM_rs, w5hi 15 (by decide)]
    obtain ⟨wB, p1, p2, p3, p4⟩ := best_run (N := N) (t := t + 1) (κ := fun (x34 : Int32) (u35 : Mem) => k_Md_collect_114 N (fun (x47 x48 : Int32) (u49 : Mem) => k_Md_collect_164 N (fun (x60 x61 : Int32) (u62 : Mem) => gd (inB x60 3) (jn (stM u62 21 x60.toNatClampNeg (u62 15 0)) (fun u64 => gd (inB x60 3) (jn (stM u64 22 x60.toNatClampNeg 2147483647) (fun u66 => some (x61, u66)))))) N x47 x48 1 u49) N x34 0 1 u35) (m := m1) hN hb (by rw [m115, if_neg (by decide)]; exact e4) (by omega) (by omega) (by rw [m1o 16 (by decide) (by decide)]; exact hneg) (by rw [m115, if_pos rfl]) (by rw [m1o 16 (by decide) (by decide), m1o 17 (by decide) (by decide)]; exact h17)
    have hBB : ∀ k, 1 ≤ k → k ≤ M → wB 24 k = B k := by
      have hB1 : BestOf m1 b M B := hB.cong (by rw [m115, if_pos rfl, hmu, stM_rs, if_pos rfl]) (by rw [m1o 16 (by decide) (by decide), muo 16 (by decide)]) (by rw [m1o 17 (by decide) (by decide), muo 17 (by decide)]) (by rw [m1o 18 (by decide) (by decide), muo 18 (by decide)]) (by rw [m1o 19 (by decide) (by decide), muo 19 (by decide)])
      exact BestOf.one p3 hB1
    have wB15 : wB 15 = m1 15 := p2 15 (by decide)
    have wB16 : wB 16 = u 16 := (p2 16 (by decide)).trans (m1o 16 (by decide) (by decide))
    obtain ⟨w6, q1, q2⟩ := freeM_loop (N := N) (M := M) (b := b) (κ := fun (x47 x48 : Int32) (u49 : Mem) => k_Md_collect_164 N (fun (x60 x61 : Int32) (u62 : Mem) => gd (inB x60 3) (jn (stM u62 21 x60.toNatClampNeg (u62 15 0)) (fun u64 => gd (inB x60 3) (jn (stM u64 22 x60.toNatClampNeg 2147483647) (fun u66 => some (x61, u66)))))) N x47 x48 1 u49) (u := wB) (by rw [wB15, m115, if_neg (by decide)]; exact e4) (by omega) M 1 N 0 wB (by omega) (by omega) (Nat.le_refl _) ⟨fun _ _ => rfl, fun j => by rw [if_neg (by omega)]⟩
    have w6o : ∀ q, 15 ≤ q → ¬ q = 15 → ¬ q = 16 → ¬ q = 24 → w6 q = u q := fun q b1 b2 b3 b4 => by rw [q2.1 q b3, p2 q b4]; exact m1o q b1 b2
    have w615 : ∀ j, w6 15 j = if j = 0 then nI (t + 1) else u 15 j := fun j => by rw [q2.1 15 (by decide), wB15]; exact m115 j
    have w624 : ∀ k, 1 ≤ k → k ≤ M → w6 24 k = B k := fun k k1 k2 => by rw [q2.1 24 (by decide)]; exact hBB k k1 k2
    have w616 : ∀ k, 1 ≤ k → k ≤ M → w6 16 k = if u 16 k = nI b ∧ ¬ 0 ≤ B k then -1 else u 16 k := fun k k1 k2 => by
      rw [q2.2 k, wB16]
      simp only [hBB k k1 k2]
      by_cases e : u 16 k = nI b ∧ ¬ 0 ≤ B k
      · rw [if_pos e, if_pos ⟨k1, by omega, e⟩]
      · rw [if_neg e, if_neg (fun z => e z.2.2)]
    have hmsg := msgs_same (V := V) h hb
    obtain ⟨w7, s1, s2, s3, s4, s5, s6, s7⟩ := settle_loop (N := N) (M := M) (b := b) (fr := nI (0 + cnF (fun k => wB 16 k = nI b ∧ ¬ 0 ≤ wB 24 k) 1 M)) (κ := fun (x60 x61 : Int32) (u62 : Mem) => gd (inB x60 3) (jn (stM u62 21 x60.toNatClampNeg (u62 15 0)) (fun u64 => gd (inB x60 3) (jn (stM u64 22 x60.toNatClampNeg 2147483647) (fun u66 => some (x61, u66)))))) (m0 := w6) (W := fun k => V (nI k)) (E := fun k => u 20 (3 * k + b)) hb (by rw [w615, if_neg (by decide)]; exact e4) (by omega) (fun k => by rw [w6o 20 (by decide) (by decide) (by decide) (by decide)]) (fun w k k1 k2 f1 f2 => vm_link (m := w) (by omega) h hb k1 k2 w107 (w1o 1 (by decide) (by decide)) (w1o 4 (by decide) (by decide)) a4 a5 hBok hV hge (by rw [f2 0 (by decide), w615, if_pos rfl]) (by rw [f2 1 (by decide), w615, if_neg (by decide)]; exact e4) (by rw [f1 18 (by decide) (by decide) (by decide)]; exact w6o 18 (by decide) (by decide) (by decide) (by decide)) (by rw [f1 19 (by decide) (by decide) (by decide)]; exact w6o 19 (by decide) (by decide) (by decide) (by decide)) (by rw [f1 24 (by decide) (by decide) (by decide)]; exact w624) (by rw [f1 16 (by decide) (by decide) (by decide)]; exact w616))
      M 1 N w6 Q (by omega) (by omega) (Nat.le_refl _) (fun _ _ _ _ => rfl) (fun _ _ => rfl) (fun k _ _ => by omega) (fun _ _ => rfl) (by rw [w615, if_neg (by decide), hQl]; exact e6) (by unfold Qw; rw [w6o 23 (by decide) (by decide) (by decide) (by decide)]; exact hQ23) (by rw [← hmsg, ← List.length_append]; exact d6)
    rw [← hmsg] at s6 s7
    obtain ⟨z, hz⟩ : ∃ z, z = stM (stM w7 21 b (nI (t + 1))) 22 b 2147483647 := ⟨_, rfl⟩
    have w7150 : w7 15 0 = nI (t + 1) := by rw [s3 0 (by decide), w615, if_pos rfl]
    have hcf := cnt_free (R := w1 14) h hb a5 hBok
    have hcm : cnF (fun k => wB 16 k = nI b ∧ ¬ 0 ≤ wB 24 k) 1 M = cnF (fun k => u 16 k = nI b ∧ ¬ 0 ≤ B k) 1 M := cnF_congr M 1 (fun k k1 k2 => by rw [wB16, hBB k k1 (by omega)])
    have mdl : f_Md_collect N (nI b) w5 = some (nI (cnF (fun s => ¬ u 3 s = 0 ∧ w1 14 s = -1) (8 * b) 8), z) := by
      unfold f_Md_collect
      have hex : f_Md_exits N (nI b) w5 = some (nI (cnF (fun i => u 7 i = nI b) 0 X), w5) := by
        rw [exitsM_eq (M := M) (by omega) hb (by rw [w5hi 15 (by decide)]; exact e4) (by omega), w5hi 20 (by decide), hcnt]
      rw [within_t (n := 3) (by decide) hb (by omega), bd_some, if_neg (by decide), hex, bd_some, w5hi 15 (by decide), e6, e2, nI_add, nI_1, if_pos (show nI _ ≤ (40 : Int32) from nI_le (b := 40) hcap (by omega)), ← hm1]
      refine p1.trans (q1.trans (s1.trans ?_))
      dsimp only [jn]
      rw [gdN hb (by omega), gdN hb (by omega), nI_clamp (by omega), w7150, ← hz, Nat.zero_add, hcm, hcf]
    refine ⟨_, w5, z, cls, mdl, t + 1, M, (Q ++ ((rowsL u X).filter (keepB b V)).filterMap (msB b V)).length, (((rowsL u X).filter (keepB b V)).map (stB b V)).length, ?_⟩
    -- the relation
    have z7o : ∀ q, ¬ q = 21 → ¬ q = 22 → z q = w7 q := fun q b1 b2 => by rw [hz, stM_ne b2, stM_ne b1]
    have zlo : ∀ q, q < 15 → z q = w5 q := fun q hq => by
      rw [z7o q (by omega) (by omega), s2 q (by omega) (by omega) (by omega), q2.1 q (by omega), p2 q (by omega), hm1, stM_ne (by omega)]
    have z4o : ∀ q, q < 15 → ¬ q = 12 → ¬ q = 13 → z q = w4 q := fun q hq b1 b2 => by rw [zlo q hq, hw5, stM_ne b2, stM_ne b1]
    have z3o : ∀ q, q < 15 → ¬ q = 12 → ¬ q = 13 → ¬ q = 3 → ¬ q = 4 → ¬ q = 5 → z q = w3 q := fun q hq b1 b2 b3 b4 b5 => (z4o q hq b1 b2).trans (w4o q b3 b4 b5)
    have zuo : ∀ q, 15 ≤ q → ¬ q = 15 → ¬ q = 16 → ¬ q = 20 → ¬ q = 21 → ¬ q = 22 → ¬ q = 23 → ¬ q = 24 → z q = u q := fun q b0 b1 b2 b3 b4 b5 b6 b7 => by
      rw [z7o q b4 b5, s2 q b3 b6 b1]; exact w6o q b0 b1 b2 b7
    have z00 : z 0 = u1 0 := (z4o 0 (by decide) (by decide) (by decide)).trans w40
    have z15 : ∀ j, ¬ j = 10 → z 15 j = if j = 0 then nI (t + 1) else u 15 j := fun j hj => by rw [z7o 15 (by decide) (by decide), s3 j hj]; exact w615 j
    have z12 : ∀ j, z 12 j = if j = b then nI (t + 1) else u 12 j := fun j => by rw [zlo 12 (by decide), hw5, stM_ne (by decide), stM_rs, w4o 12 (by decide) (by decide) (by decide), w3o 12 (by decide) (by decide) (by decide)]
    have z13 : ∀ j, z 13 j = if j = b then 2147483647 else u 13 j := fun j => by rw [zlo 13 (by decide), hw5, stM_rs, stM_ne (by decide), w4o 13 (by decide) (by decide) (by decide), w3o 13 (by decide) (by decide) (by decide)]
    have w721 : w7 21 = u 21 := (s2 21 (by decide) (by decide) (by decide)).trans (w6o 21 (by decide) (by decide) (by decide) (by decide))
    have w722 : w7 22 = u 22 := (s2 22 (by decide) (by decide) (by decide)).trans (w6o 22 (by decide) (by decide) (by decide) (by decide))
    have z21 : ∀ j, z 21 j = if j = b then nI (t + 1) else u 21 j := fun j => by rw [hz, stM_ne (by decide), stM_rs, w721]
    have z22 : ∀ j, z 22 j = if j = b then 2147483647 else u 22 j := fun j => by rw [hz, stM_rs, stM_ne (by decide), w722]
    have zRw : Rw z (((rowsL u X).filter (keepB b V)).map (stB b V)) := by
      obtain ⟨r1, r2, r3⟩ := d2
      exact ⟨r1, by rw [z3o 6 (by decide) (by decide) (by decide) (by decide) (by decide) (by decide)]; exact r2, by rw [z3o 7 (by decide) (by decide) (by decide) (by decide) (by decide) (by decide), z3o 8 (by decide) (by decide) (by decide) (by decide) (by decide) (by decide), z3o 9 (by decide) (by decide) (by decide) (by decide) (by decide) (by decide)]; exact r3⟩
    have z20 : ∀ k, 1 ≤ k → k ≤ M → z 20 (3 * k + b) = nwX (u 20 (3 * k + b)) (V (nI k)) := fun k k1 k2 => by rw [z7o 20 (by decide) (by decide)]; exact s4 k k1 k2
    have z20' : ∀ j, (∀ k, 1 ≤ k → k ≤ M → ¬ j = 3 * k + b) → z 20 j = u 20 j := fun j hj => by rw [z7o 20 (by decide) (by decide), s5 j hj, w6o 20 (by decide) (by decide) (by decide) (by decide)]
    have z3f : ∀ j, z 3 j = if 8 * b ≤ j ∧ j < 8 * b + 8 ∧ (¬ u 3 j = 0 ∧ w1 14 j = -1) then 0 else u 3 j := fun j => by rw [z4o 3 (by decide) (by decide) (by decide)]; exact (f2.2 j).1
    have z5f : ∀ j, z 5 j = if 8 * b ≤ j ∧ j < 8 * b + 8 ∧ (¬ u 3 j = 0 ∧ w1 14 j = -1) then -1 else u 5 j := fun j => by rw [z4o 5 (by decide) (by decide) (by decide)]; exact (f2.2 j).2.1
    have z4f : ∀ j, z 4 j = if 8 * b ≤ j / 2 ∧ j / 2 < 8 * b + 8 ∧ (¬ u 3 (j / 2) = 0 ∧ w1 14 (j / 2) = -1) then 0 else u 4 j := fun j => by rw [z4o 4 (by decide) (by decide) (by decide)]; exact (f2.2 j).2.2
    have hkeep : ∀ s k, s < 24 → 1 ≤ k → k ≤ M → u 3 s = nI k → 0 ≤ (u 5 s).toInt → z 3 s = nI k ∧ z 5 s = u 5 s := by
      intro s k r1 r2 r3 r4 r5
      have hn : ¬ (8 * b ≤ s ∧ s < 8 * b + 8 ∧ (¬ u 3 s = 0 ∧ w1 14 s = -1)) := by
        rintro ⟨y1, y2, y3, y4⟩
        rcases a6 s y1 y2 with y | ⟨-, y⟩
        · rw [y4, m1_ti] at y; omega
        · rw [y4] at y
          exact m1_ne (by omega) y.symm
      rw [z3f, if_neg hn, z5f, if_neg hn]
      exact ⟨r4, rfl⟩
    have hQt : ∀ m ∈ Q ++ ((rowsL u X).filter (keepB b V)).filterMap (msB b V), m.2.2.1.toInt ≤ ((t + 1 : Nat) : Int) := by
      intro m hm
      rcases List.mem_append.mp hm with hm | hm
      · rw [hQe] at hm
        obtain ⟨i, hi⟩ := List.getElem?_of_mem hm
        obtain ⟨r1, rfl⟩ := msgsL_at hi
        have := h.2.2.2.1.2 i r1
        dsimp only
        omega
      · rw [List.mem_filterMap] at hm
        obtain ⟨r, r1, r2⟩ := hm
        unfold msB at r2
        split at r2
        · cases r2
          dsimp only
          rcases hVok r.2.1 with e | e
          · rw [e, m1_ti]; omega
          · exact e.2
        · cases r2
    have hsq := sq_of (t := t + 1) (z := z) (Q := Q ++ ((rowsL u X).filter (keepB b V)).filterMap (msB b V)) (by unfold Qw; rw [z3o 11 (by decide) (by decide) (by decide) (by decide) (by decide) (by decide)]; exact d4) (by unfold Qw; rw [z7o 23 (by decide) (by decide)]; exact s7) hQt
    refine ⟨⟨⟨hc, by omega, by omega, d6, zRw.1⟩, by rw [z00]; exact u10, by rw [z15 0 (by decide), if_pos rfl], by rw [z3o 2 (by decide) (by decide) (by decide) (by decide) (by decide) (by decide), w3o 2 (by decide) (by decide) (by decide)]; exact h.1.2.2.2.1, by rw [z15 1 (by decide), if_neg (by decide)]; exact e4, by rw [z3o 10 (by decide) (by decide) (by decide) (by decide) (by decide) (by decide)]; exact d3, by rw [z7o 15 (by decide) (by decide)]; exact s6, zRw.2.1, by rw [z15 9 (by decide), if_neg (by decide), z00, u108]; exact h.1.2.2.2.2.2.2.2.2⟩, ?_, fun n hn => ?_, hsq, sa_collect_h (R := w1 14) (B := B) h hb hc a4 a5 hBok z3f z5f z4f (fun k k1 k2 => by rw [z7o 16 (by decide) (by decide), s2 16 (by decide) (by decide) (by decide)]; exact w616 k k1 k2) (zuo 17 (by decide) (by decide) (by decide) (by decide) (by decide) (by decide) (by decide) (by decide)) (zuo 18 (by decide) (by decide) (by decide) (by decide) (by decide) (by decide) (by decide) (by decide)), sa_collect_x h hb hc hV hVok (w1o 1 (by decide) (by decide)) (w1o 4 (by decide) (by decide)) zRw z12 z20 z20' hkeep⟩
    · unfold SR
      rw [zuo 19 (by decide) (by decide) (by decide) (by decide) (by decide) (by decide) (by decide) (by decide), z3o 1 (by decide) (by decide) (by decide) (by decide) (by decide) (by decide), w3o 1 (by decide) (by decide) (by decide)]
      exact h.2.1
    · obtain ⟨r1, r2, r3, r4, r5⟩ := h.2.2.1 n hn
      rw [z12, z13, z21, z22, z00, u108]
      by_cases e : n = b
      · rw [if_pos e, if_pos e, if_pos e, if_pos e, nI_toInt (by omega)]
        exact ⟨rfl, rfl, by omega, by omega, by omega⟩
      · rw [if_neg e, if_neg e, if_neg e, if_neg e]
        exact ⟨r1, r2, r3, by omega, r5⟩
  · refine good_same (r := -1) ⟨t, M, S, X, h.more hc⟩ ?_ ?_
    · unfold f_Sh_collect
      rw [isNode_t hb, bd_some, if_neg (by decide), hqs, bd_some, countOf_eq (by omega) e7 (by omega), bd_some, nI_add, if_neg (show ¬ nI _ ≤ (40 : Int32) from nI_ge (a := 40) (by omega) (by omega))]
    · unfold f_Md_collect
      rw [within_t (n := 3) (by decide) hb (by omega), bd_some, if_neg (by decide), exitsM_eq (M := M) (by omega) hb e4 (by omega), bd_some, e6, nI_add, ← hcnt, if_neg (show ¬ nI _ ≤ (40 : Int32) from nI_ge (a := 40) (by omega) (by omega))]
