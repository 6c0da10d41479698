/-! Pure: the class's rows of exits as a list, while a node is collected. -/
def Rw (w : Mem) (L : List (Int32 × Int32 × Int32)) : Prop := L.length ≤ 105 ∧ w 6 3 = nI L.length ∧ ∀ (i : Nat) (r : Int32 × Int32 × Int32), L[i]? = some r → w 7 i = r.1 ∧ w 8 i = r.2.1 ∧ w 9 i = r.2.2
theorem Rw.rem {w w' : Mem} {L : List (Int32 × Int32 × Int32)} {r : Nat} (h : Rw w L) (hr : r < L.length) (hrm : rmR w w' r L.length) : Rw w' (L.eraseIdx r) := by
  obtain ⟨h1, h2, h3⟩ := h
  have hlen : (L.eraseIdx r).length = L.length - 1 := by rw [List.length_eraseIdx, if_pos hr]
  refine ⟨by omega, by rw [hlen]; exact hrm.2.1, fun i x hx => ?_⟩
  have lt : i < L.length - 1 := by
    have := (List.getElem?_eq_some_iff.mp hx).1
    omega
  rw [List.getElem?_eraseIdx] at hx
  have c7 := hrm.2.2 7 (Or.inl rfl)
  have c8 := hrm.2.2 8 (Or.inr (Or.inl rfl))
  have c9 := hrm.2.2 9 (Or.inr (Or.inr rfl))
  by_cases e : i < r
  · rw [if_pos e] at hx
    rw [c7.1 i e, c8.1 i e, c9.1 i e]
    exact h3 i x hx
  · rw [if_neg e] at hx
    rw [c7.2 i (by omega) (by omega), c8.2 i (by omega) (by omega), c9.2 i (by omega) (by omega)]
    exact h3 (i + 1) x hx
theorem Rw.set {w : Mem} {L : List (Int32 × Int32 × Int32)} {i : Nat} {r : Int32 × Int32 × Int32} {x : Int32} (h : Rw w L) (hr : L[i]? = some r) : Rw (stM w 9 i x) (L.set i (r.1, r.2.1, x)) := by
  obtain ⟨h1, h2, h3⟩ := h
  have hi : i < L.length := (List.getElem?_eq_some_iff.mp hr).1
  refine ⟨by rw [List.length_set]; exact h1, by rw [List.length_set, stM_ne (by decide)]; exact h2, fun j y hy => ?_⟩
  rw [stM_ne (by decide), stM_ne (by decide), stM_rs]
  by_cases e : j = i
  · subst e
    rw [List.getElem?_set_self hi] at hy
    cases hy
    obtain ⟨a, c, -⟩ := h3 j r hr
    rw [if_pos rfl]
    exact ⟨a, c, rfl⟩
  · rw [List.getElem?_set_ne (fun z => e z.symm)] at hy
    rw [if_neg e]
    exact h3 j y hy
/-- the value V o for each object, in memories that agree with w1 where it is read -/
def sameV (w1 w : Mem) : Prop := w 0 = w1 0 ∧ w 1 = w1 1 ∧ w 4 = w1 4 ∧ w 14 = w1 14
theorem roe_V {N b : Nat} {o : Int32} {w1 w : Mem} {V : Int32 → Int32} (hN : 600 ≤ N) (hb : b < 3) (hge : ∀ j, 8 * b ≤ j → j < 8 * b + 8 → -1 ≤ (w1 14 j).toInt) (hV : ∀ o, gvC w1 b o (V o)) (hs : sameV w1 w) : f_Sh_reachOfExit N (nI b) o w = some (V o, w) := by
  obtain ⟨v, a1, a2⟩ := roe_eq (N := N) (o := o) (w := w) hN hb
  obtain ⟨s0, s1, s4, s14⟩ := hs
  rw [a1, gvC_one hge (gvC_cong s0.symm s1.symm s4.symm s14.symm a2) (hV o)]
def keepB (b : Nat) (V : Int32 → Int32) (r : Int32 × Int32 × Int32) : Bool := !(decide (r.1 = nI b) && decide (V r.2.1 = -1))
theorem take_loop {N b : Nat} {κ : Mem → Rs} {w1 : Mem} {V : Int32 → Int32} (hN : 600 ≤ N) (hb : b < 3) (hge : ∀ j, 8 * b ≤ j → j < 8 * b + 8 → -1 ≤ (w1 14 j).toInt) (hV : ∀ o, gvC w1 b o (V o)) : ∀ (d n : Nat) (w : Mem) (A Rst : List (Int32 × Int32 × Int32)), A.length = d → d < n → Rw w (A ++ Rst) → (∀ q, ¬ (6 ≤ q ∧ q ≤ 9) → w q = w1 q) → ∃ w', k_Sh_takeUnreachedExits_10 N κ n (nI b) (nI d - 1) w = κ w' ∧ Rw w' (A.filter (keepB b V) ++ Rst) ∧ ∀ q, ¬ (6 ≤ q ∧ q ≤ 9) → w' q = w1 q := by
  intro d
  induction d with
  | zero =>
    intro n w A Rst hA hn hR hs
    obtain ⟨n, rfl, hn⟩ := succ_of hn
    have e : A = [] := List.eq_nil_of_length_eq_zero hA
    subst e
    refine ⟨w, ?_, hR, hs⟩
    rw [k_Sh_takeUnreachedExits_10, if_pos (show nI 0 - 1 < 0 by decide)]
  | succ d ih =>
    intro n w A Rst hA hn hR hs
    obtain ⟨n, rfl, hn⟩ := succ_of hn
    obtain ⟨A', r, rfl⟩ : ∃ A' r, A = A' ++ [r] := by
      rcases List.eq_nil_or_concat A with e | ⟨A', r, e⟩
      · rw [e] at hA; cases hA
      · exact ⟨A', r, by rw [e, List.concat_eq_append]⟩
    have hA' : A'.length = d := by
      rw [List.length_append] at hA
      simpa using hA
    have hl := hR.1
    rw [List.length_append, List.length_append] at hl
    simp only [List.length_cons, List.length_nil] at hl
    have hg : (A' ++ [r] ++ Rst)[d]? = some r := by
      rw [List.append_assoc, List.getElem?_append_right (by omega), hA']
      simp
    obtain ⟨g7, g8, g9⟩ := hR.2.2 d r hg
    have sv : sameV w1 w := ⟨hs 0 (by decide), hs 1 (by decide), hs 4 (by decide), hs 14 (by decide)⟩
    have e1 : nI (d + 1) - 1 = nI d := nI_pred d
    have e2 : nI d + (-1) = nI d - 1 := (Int32.sub_eq_add_neg _ _).symm
    have assoc : A' ++ [r] ++ Rst = A' ++ (r :: Rst) := by rw [List.append_assoc]; rfl
    have keepcase : keepB b V r = true → ∃ w', k_Sh_takeUnreachedExits_10 N κ n (nI b) (nI d - 1) w = κ w' ∧ Rw w' ((A' ++ [r]).filter (keepB b V) ++ Rst) ∧ ∀ q, ¬ (6 ≤ q ∧ q ≤ 9) → w' q = w1 q := by
      intro hk
      obtain ⟨w', a1, a2, a3⟩ := ih n w A' (r :: Rst) hA' (by omega) (by rw [← assoc]; exact hR) hs
      refine ⟨w', a1, ?_, a3⟩
      rw [List.filter_append, List.filter_cons, if_pos hk, List.append_assoc]
      exact a2
    by_cases h7 : r.1 = nI b
    · by_cases hv : V r.2.1 = -1
      · obtain ⟨w2, c1, c2⟩ := removeAt_eq (N := N) (X := (A' ++ [r] ++ Rst).length) (r := d) (u := w) hN hR.2.1 hR.1 (by rw [List.length_append, List.length_append]; simp only [List.length_cons, List.length_nil]; omega)
        have hR2 := hR.rem (r := d) (by rw [List.length_append, List.length_append]; simp only [List.length_cons, List.length_nil]; omega) c2
        have er : (A' ++ [r] ++ Rst).eraseIdx d = A' ++ Rst := by
          rw [assoc, List.eraseIdx_append_of_length_le (by omega), hA', Nat.sub_self]
          rfl
        rw [er] at hR2
        obtain ⟨w', a1, a2, a3⟩ := ih n w2 A' Rst hA' (by omega) hR2 (fun q hq => by rw [c2.1 q (by omega) (by omega) (by omega) (by omega)]; exact hs q hq)
        refine ⟨w', ?_, ?_, a3⟩
        · rw [k_Sh_takeUnreachedExits_10, e1, if_neg (nI_pos (by omega)), nodeAt_eq (by omega), bd_some, g7, if_pos h7, objectAt_eq (by omega), bd_some, g8, roe_V hN hb hge hV sv, bd_some, if_pos hv, c1, bd_some, e2]
          exact a1
        · have hk : ¬ keepB b V r = true := by
            unfold keepB
            rw [h7, hv]
            simp
          rw [List.filter_append, List.filter_cons, if_neg hk, List.filter_nil, List.append_nil]
          exact a2
      · obtain ⟨w', a1, a2, a3⟩ := keepcase (by unfold keepB; simp [hv])
        refine ⟨w', ?_, a2, a3⟩
        rw [k_Sh_takeUnreachedExits_10, e1, if_neg (nI_pos (by omega)), nodeAt_eq (by omega), bd_some, g7, if_pos h7, objectAt_eq (by omega), bd_some, g8, roe_V hN hb hge hV sv, bd_some, if_neg hv, e2]
        exact a1
    · obtain ⟨w', a1, a2, a3⟩ := keepcase (by unfold keepB; simp [h7])
      refine ⟨w', ?_, a2, a3⟩
      rw [k_Sh_takeUnreachedExits_10, e1, if_neg (nI_pos (by omega)), nodeAt_eq (by omega), bd_some, g7, if_neg h7, e2]
      exact a1
theorem take_eq {N b : Nat} {w1 : Mem} {V : Int32 → Int32} {L : List (Int32 × Int32 × Int32)} (hN : 600 ≤ N) (hb : b < 3) (hge : ∀ j, 8 * b ≤ j → j < 8 * b + 8 → -1 ≤ (w1 14 j).toInt) (hV : ∀ o, gvC w1 b o (V o)) (hR : Rw w1 L) : ∃ w', f_Sh_takeUnreachedExits N (nI b) w1 = some (0, w') ∧ Rw w' (L.filter (keepB b V)) ∧ ∀ q, ¬ (6 ≤ q ∧ q ≤ 9) → w' q = w1 q := by
  have hl := hR.1
  obtain ⟨w', a1, a2, a3⟩ := take_loop (N := N) (κ := fun v => some (0, v)) hN hb hge hV L.length N w1 L [] rfl (by omega) (by rw [List.append_nil]; exact hR) (fun _ _ => rfl)
  refine ⟨w', ?_, by rw [List.append_nil] at a2; exact a2, a3⟩
  unfold f_Sh_takeUnreachedExits f_Xt_size
  rw [bd_some, hR.2.1]
  exact a1
def Qw (w : Mem) (q : Nat) (Q : List (Int32 × Int32 × Int32 × Int32)) : Prop := ∀ (i : Nat) (m : Int32 × Int32 × Int32 × Int32), Q[i]? = some m → w q (4 * i) = m.1 ∧ w q (4 * i + 1) = m.2.1 ∧ w q (4 * i + 2) = m.2.2.1 ∧ w q (4 * i + 3) = m.2.2.2
theorem Qw.push {w w' : Mem} {q : Nat} {Q : List (Int32 × Int32 × Int32 × Int32)} {m : Int32 × Int32 × Int32 × Int32} (h : Qw w q Q) (hlo : ∀ j, j < 4 * Q.length → w' q j = w q j) (h0 : w' q (4 * Q.length) = m.1) (h1 : w' q (4 * Q.length + 1) = m.2.1) (h2 : w' q (4 * Q.length + 2) = m.2.2.1) (h3 : w' q (4 * Q.length + 3) = m.2.2.2) : Qw w' q (Q ++ [m]) := by
  intro i x hx
  by_cases e : i < Q.length
  · rw [List.getElem?_append_left e] at hx
    rw [hlo _ (by omega), hlo _ (by omega), hlo _ (by omega), hlo _ (by omega)]
    exact h i x hx
  · rw [List.getElem?_append_right (by omega)] at hx
    have hz : i - Q.length < 1 := (List.getElem?_eq_some_iff.mp hx).1
    have ei : i = Q.length := by omega
    subst ei
    rw [Nat.sub_self] at hx
    cases hx
    exact ⟨h0, h1, h2, h3⟩
theorem send_eq {N S : Nat} {a1 a2 a3 a4 : Int32} {w : Mem} (hS : w 10 1 = nI S) (hS2 : S < 40) : ∃ w', f_Qu_send N a1 a2 a3 a4 w = some (0, w') ∧ (∀ q, ¬ q = 10 → ¬ q = 11 → w' q = w q) ∧ w' 10 1 = nI (S + 1) ∧ (∀ j, j < 4 * S → w' 11 j = w 11 j) ∧ w' 11 (4 * S) = a1 ∧ w' 11 (4 * S + 1) = a2 ∧ w' 11 (4 * S + 2) = a3 ∧ w' 11 (4 * S + 3) = a4 := by
  refine ⟨stM (stM (stM (stM (stM w 11 (4 * S) a1) 11 (4 * S + 1) a2) 11 (4 * S + 2) a3) 11 (4 * S + 3) a4) 10 1 (nI (S + 1)), ?_, fun q b1 b2 => by rw [stM_ne b1, stM_ne b2, stM_ne b2, stM_ne b2, stM_ne b2], by rw [stM_rs, if_pos rfl], fun j hj => ?_, ?_, ?_, ?_, ?_⟩
  · unfold f_Qu_send
    dsimp only [jn]
    have e0 : nI S * 4 + 0 = nI (4 * S) := four_eq2 (r := 0)
    have e1 : nI S * 4 + 1 = nI (4 * S + 1) := four_eq2 (r := 1)
    have e2 : nI S * 4 + 2 = nI (4 * S + 2) := four_eq2 (r := 2)
    have e3 : nI S * 4 + 3 = nI (4 * S + 3) := four_eq2 (r := 3)
    rw [hS, if_neg (show ¬ (40 : Int32) ≤ nI S from nI_ge (b := 40) hS2 (by omega)), e0, gdN (by omega) (by omega), nI_clamp (by omega)]
    have s1 : stM w 11 (4 * S) a1 10 1 = nI S := by rw [stM_ne (by decide), hS]
    rw [s1, e1, gdN (by omega) (by omega), nI_clamp (by omega)]
    have s2 : stM (stM w 11 (4 * S) a1) 11 (4 * S + 1) a2 10 1 = nI S := by rw [stM_ne (by decide), s1]
    rw [s2, e2, gdN (by omega) (by omega), nI_clamp (by omega)]
    have s3 : stM (stM (stM w 11 (4 * S) a1) 11 (4 * S + 1) a2) 11 (4 * S + 2) a3 10 1 = nI S := by rw [stM_ne (by decide), s2]
    rw [s3, e3, gdN (by omega) (by omega), nI_clamp (by omega)]
    have s4 : stM (stM (stM (stM w 11 (4 * S) a1) 11 (4 * S + 1) a2) 11 (4 * S + 2) a3) 11 (4 * S + 3) a4 10 1 = nI S := by rw [stM_ne (by decide), s3]
    rw [s4, nI_1]
  · rw [stM_ne (by decide), stM_rs, if_neg (by omega), stM_rs, if_neg (by omega), stM_rs, if_neg (by omega), stM_rs, if_neg (by omega)]
  · rw [stM_ne (by decide), stM_rs, if_neg (by omega), stM_rs, if_neg (by omega), stM_rs, if_neg (by omega), stM_rs, if_pos rfl]
  · rw [stM_ne (by decide), stM_rs, if_neg (by omega), stM_rs, if_neg (by omega), stM_rs, if_pos rfl]
  · rw [stM_ne (by decide), stM_rs, if_neg (by omega), stM_rs, if_pos rfl]
  · rw [stM_ne (by decide), stM_rs, if_pos rfl]
def stB (b : Nat) (V : Int32 → Int32) (r : Int32 × Int32 × Int32) : Int32 × Int32 × Int32 := if r.1 = nI b ∧ ¬ V r.2.1 ≤ r.2.2 then (r.1, r.2.1, V r.2.1) else r
def msB (b : Nat) (V : Int32 → Int32) (r : Int32 × Int32 × Int32) : Option (Int32 × Int32 × Int32 × Int32) := if r.1 = nI b ∧ ¬ V r.2.1 ≤ r.2.2 then some (r.1, r.2.1, V r.2.1, r.2.2) else none
theorem stamp_loop {N b : Nat} {κ : Mem → Rs} {w1 : Mem} {V : Int32 → Int32} (hN : 600 ≤ N) (hb : b < 3) (hge : ∀ j, 8 * b ≤ j → j < 8 * b + 8 → -1 ≤ (w1 14 j).toInt) (hV : ∀ o, gvC w1 b o (V o)) : ∀ (d i n : Nat) (w : Mem) (A Bl : List (Int32 × Int32 × Int32)) (Q : List (Int32 × Int32 × Int32 × Int32)), A.length = i → Bl.length = d → d < n → Rw w (A ++ Bl) → w 10 1 = nI Q.length → Qw w 11 Q → Q.length + (Bl.filter (fun r => decide (r.1 = nI b))).length ≤ 40 → (∀ q, ¬ (6 ≤ q ∧ q ≤ 11) → w q = w1 q) →
    ∃ w', k_Sh_stampReachedExits_2 N κ n (nI b) (nI i) w = κ w' ∧ Rw w' (A ++ Bl.map (stB b V)) ∧ w' 10 1 = nI (Q ++ Bl.filterMap (msB b V)).length ∧ Qw w' 11 (Q ++ Bl.filterMap (msB b V)) ∧ (∀ q, ¬ (6 ≤ q ∧ q ≤ 11) → w' q = w1 q) ∧ (Q ++ Bl.filterMap (msB b V)).length ≤ 40 := by
  intro d
  induction d with
  | zero =>
    intro i n w A Bl Q hA hB hn hR hq hQ hcap hs
    obtain ⟨n, rfl, hn⟩ := succ_of hn
    have e : Bl = [] := List.eq_nil_of_length_eq_zero hB
    subst e
    have hl := hR.1
    rw [List.append_nil] at hl
    refine ⟨w, ?_, hR, by rw [List.filterMap_nil, List.append_nil]; exact hq, by rw [List.filterMap_nil, List.append_nil]; exact hQ, hs, by rw [List.filterMap_nil, List.append_nil]; omega⟩
    unfold k_Sh_stampReachedExits_2 f_Xt_size
    rw [bd_some, hR.2.1, List.append_nil, hA, if_pos (nI_le (Nat.le_refl _) (by omega))]
  | succ d ih =>
    intro i n w A Bl Q hA hB hn hR hq hQ hcap hs
    obtain ⟨n, rfl, hn⟩ := succ_of hn
    cases Bl with
    | nil => cases hB
    | cons r B' =>
      have hB' : B'.length = d := by simpa using hB
      have hl := hR.1
      rw [List.length_append, List.length_cons] at hl
      have hg : (A ++ r :: B')[i]? = some r := by
        rw [List.getElem?_append_right (by omega), hA, Nat.sub_self]
        rfl
      obtain ⟨g7, g8, g9⟩ := hR.2.2 i r hg
      have sv : sameV w1 w := ⟨hs 0 (by decide), hs 1 (by decide), hs 4 (by decide), hs 14 (by decide)⟩
      have head : k_Sh_stampReachedExits_2 N κ (n + 1) (nI b) (nI i) w = if r.1 = nI b then bd (f_Sh_stampReachedExit N (nI i) w) (fun _ u11 => k_Sh_stampReachedExits_2 N κ n (nI b) (nI (i + 1)) u11) else k_Sh_stampReachedExits_2 N κ n (nI b) (nI (i + 1)) w := by
        rw [k_Sh_stampReachedExits_2]
        unfold f_Xt_size
        rw [bd_some, hR.2.1, if_neg (nI_ge (by rw [List.length_append, List.length_cons]; omega) (by rw [List.length_append, List.length_cons]; omega)), nodeAt_eq (by omega), bd_some, g7, nI_1]
      have assoc : ∀ y, A ++ y :: B' = (A ++ [y]) ++ B' := fun y => by rw [List.append_assoc]; rfl
      have hA1 : ∀ y, (A ++ [y]).length = i + 1 := fun y => by rw [List.length_append, hA]; rfl
      by_cases hc : r.1 = nI b ∧ ¬ V r.2.1 ≤ r.2.2
      · have hcnt : Q.length + 1 + (B'.filter (fun r => decide (r.1 = nI b))).length ≤ 40 := by
          rw [List.filter_cons, if_pos (by simp [hc.1]), List.length_cons] at hcap
          omega
        have hR1 := hR.set (x := V r.2.1) hg
        rw [List.set_append_right _ _ (by omega), hA, Nat.sub_self] at hR1
        obtain ⟨w2, s1, s2, s3, s4, s5, s6, s7, s8⟩ := send_eq (N := N) (S := Q.length) (a1 := r.1) (a2 := r.2.1) (a3 := V r.2.1) (a4 := r.2.2) (w := stM w 9 i (V r.2.1)) (by rw [stM_ne (by decide)]; exact hq) (by omega)
        have hst : f_Sh_stampReachedExit N (nI i) w = some (0, w2) := by
          unfold f_Sh_stampReachedExit
          rw [nodeAt_eq (by omega), bd_some, objectAt_eq (by omega), bd_some, stampAt_eq (by omega), bd_some, g7, g8, g9, hc.1, roe_V hN hb hge hV sv, bd_some, if_neg hc.2, setStamp_eq (by omega), bd_some, ← hc.1, s1, bd_some]
        have hR2 : Rw w2 ((A ++ [(r.1, r.2.1, V r.2.1)]) ++ B') := by
          rw [← assoc]
          obtain ⟨q1, q2, q3⟩ := hR1
          exact ⟨q1, by rw [s2 6 (by decide) (by decide)]; exact q2, by rw [s2 7 (by decide) (by decide), s2 8 (by decide) (by decide), s2 9 (by decide) (by decide)]; exact q3⟩
        have hQ2 : Qw w2 11 (Q ++ [(r.1, r.2.1, V r.2.1, r.2.2)]) := hQ.push (fun j hj => by rw [s4 j hj, stM_ne (by decide)]) s5 s6 s7 s8
        obtain ⟨w', a1, a2, a3, a4, a5, a6⟩ := ih (i + 1) n w2 (A ++ [(r.1, r.2.1, V r.2.1)]) B' (Q ++ [(r.1, r.2.1, V r.2.1, r.2.2)]) (hA1 _) hB' (by omega) hR2 (by rw [s3, List.length_append]; rfl) hQ2 (by rw [List.length_append]; simp only [List.length_cons, List.length_nil]; omega) (fun q hq => by rw [s2 q (by omega) (by omega), stM_ne (by omega)]; exact hs q hq)
        have em : (r :: B').filterMap (msB b V) = (r.1, r.2.1, V r.2.1, r.2.2) :: B'.filterMap (msB b V) := by
          rw [List.filterMap_cons]
          unfold msB
          rw [if_pos hc]
        have es : (r :: B').map (stB b V) = (r.1, r.2.1, V r.2.1) :: B'.map (stB b V) := by
          rw [List.map_cons]
          congr 1
          unfold stB
          rw [if_pos hc]
        have eq : Q ++ (r :: B').filterMap (msB b V) = Q ++ [(r.1, r.2.1, V r.2.1, r.2.2)] ++ B'.filterMap (msB b V) := by
          rw [em, List.append_assoc]; rfl
        refine ⟨w', ?_, ?_, by rw [eq]; exact a3, by rw [eq]; exact a4, a5, by rw [eq]; exact a6⟩
        · rw [head, if_pos hc.1, hst, bd_some]
          exact a1
        · rw [es, List.append_assoc] at *
          exact a2
      · have hcnt : Q.length + (B'.filter (fun r => decide (r.1 = nI b))).length ≤ 40 := by
          rw [List.filter_cons] at hcap
          split at hcap
          · rw [List.length_cons] at hcap; omega
          · exact hcap
        obtain ⟨w', a1, a2, a3, a4, a5, a6⟩ := ih (i + 1) n w (A ++ [r]) B' Q (hA1 _) hB' (by omega) (by rw [← assoc]; exact hR) hq hQ hcnt hs
        have em : (r :: B').filterMap (msB b V) = B'.filterMap (msB b V) := by
          rw [List.filterMap_cons]
          unfold msB
          rw [if_neg hc]
        have es : (r :: B').map (stB b V) = r :: B'.map (stB b V) := by
          rw [List.map_cons]
          congr 1
          unfold stB
          rw [if_neg hc]
        refine ⟨w', ?_, ?_, by rw [em]; exact a3, by rw [em]; exact a4, a5, by rw [em]; exact a6⟩
        · rw [head]
          by_cases h7 : r.1 = nI b
          · have hle : V r.2.1 ≤ r.2.2 := Classical.byContradiction (fun z => hc ⟨h7, z⟩)
            have hst : f_Sh_stampReachedExit N (nI i) w = some (0, w) := by
              unfold f_Sh_stampReachedExit
              rw [nodeAt_eq (by omega), bd_some, objectAt_eq (by omega), bd_some, stampAt_eq (by omega), bd_some, g7, g8, g9, h7, roe_V hN hb hge hV sv, bd_some, if_pos hle]
            rw [if_pos h7, hst, bd_some]
            exact a1
          · rw [if_neg h7]
            exact a1
        · rw [es]
          rw [List.append_assoc] at a2
          exact a2
theorem stamp_eq {N b : Nat} {w1 w : Mem} {V : Int32 → Int32} {L : List (Int32 × Int32 × Int32)} {Q : List (Int32 × Int32 × Int32 × Int32)} (hN : 600 ≤ N) (hb : b < 3) (hge : ∀ j, 8 * b ≤ j → j < 8 * b + 8 → -1 ≤ (w1 14 j).toInt) (hV : ∀ o, gvC w1 b o (V o)) (hR : Rw w L) (hq : w 10 1 = nI Q.length) (hQ : Qw w 11 Q) (hcap : Q.length + (L.filter (fun r => decide (r.1 = nI b))).length ≤ 40) (hs : ∀ q, ¬ (6 ≤ q ∧ q ≤ 11) → w q = w1 q) :
    ∃ w', f_Sh_stampReachedExits N (nI b) w = some (0, w') ∧ Rw w' (L.map (stB b V)) ∧ w' 10 1 = nI (Q ++ L.filterMap (msB b V)).length ∧ Qw w' 11 (Q ++ L.filterMap (msB b V)) ∧ (∀ q, ¬ (6 ≤ q ∧ q ≤ 11) → w' q = w1 q) ∧ (Q ++ L.filterMap (msB b V)).length ≤ 40 := by
  have hl := hR.1
  exact stamp_loop (κ := fun v => some (0, v)) hN hb hge hV L.length 0 N w [] L Q rfl rfl (by omega) hR hq hQ hcap hs
