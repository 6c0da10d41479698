/-! Pure: what the reference reaches on a node. -/
def bestP (u : Mem) (b k : Nat) (x : Int32) : Prop := (u 16 k = nI b ∧ hrt u 19 b (nI k) ∧ x = u 15 0) ∨ (u 16 k = nI b ∧ ¬ hrt u 19 b (nI k) ∧ x = u 17 k) ∨ (¬ u 16 k = nI b ∧ x = -1)
theorem best_loop {N M b : Nat} {κ : Int32 → Mem → Rs} {u : Mem} (hb : b < 3) (hM : u 15 1 = nI M) (hM2 : M ≤ 512) : ∀ (d i n : Nat) (w : Mem), i + d = M + 1 → d < n → 1 ≤ i → (∀ p, ¬ p = 24 → w p = u p) → (∀ j, 1 ≤ j → j < i → bestP u b j (w 24 j)) → ∃ w2, k_Md_collect_38 N κ n (nI b) (nI i) w = κ (nI b) w2 ∧ (∀ p, ¬ p = 24 → w2 p = u p) ∧ ∀ j, 1 ≤ j → j ≤ M → bestP u b j (w2 24 j) := by
  intro d
  induction d with
  | zero =>
    intro i n w hi hn h1i h1 h2
    obtain ⟨n, rfl, hn⟩ := succ_of hn
    refine ⟨w, ?_, h1, fun j a c => h2 j a (by omega)⟩
    rw [k_Md_collect_38, h1 15 (by decide), hM, if_pos (nI_lt (by omega) (by omega))]
  | succ d ih =>
    intro i n w hi hn h1i h1 h2
    obtain ⟨n, rfl, hn⟩ := succ_of hn
    have step : ∀ x, bestP u b i x → ∃ w2, k_Md_collect_38 N κ n (nI b) (nI (i + 1)) (stM w 24 i x) = κ (nI b) w2 ∧ (∀ p, ¬ p = 24 → w2 p = u p) ∧ ∀ j, 1 ≤ j → j ≤ M → bestP u b j (w2 24 j) := by
      intro x hx
      refine ih (i + 1) n _ (by omega) (by omega) (by omega) (fun p hp => by rw [stM_ne hp]; exact h1 p hp) (fun j a c => ?_)
      rw [stM_rs]
      by_cases e : j = i
      · rw [if_pos e, e]; exact hx
      · rw [if_neg e]; exact h2 j a (by omega)
    have w15 := h1 15 (by decide)
    have w16 := h1 16 (by decide)
    have w17 := h1 17 (by decide)
    have w19 := h1 19 (by decide)
    rw [k_Md_collect_38, w15, w16, hM, if_neg (nI_nlt (by omega) (by omega)), gdN (by omega) (by omega)]
    simp (disch := omega) only [nI_clamp, gdN, nI_1, jn]
    by_cases ho : u 16 i = nI b
    · rw [if_pos ho]
      by_cases hr : hrt u 19 b (nI i)
      · rw [(rootsM (u := w) hb).1 (by unfold hrt; rw [w19]; exact hr), bd_some, if_neg (by decide), w15]
        exact step _ (Or.inl ⟨ho, hr, rfl⟩)
      · rw [(rootsM (u := w) hb).2 (by unfold hrt; rw [w19]; exact hr), bd_some, if_pos rfl, w17]
        exact step _ (Or.inr (Or.inl ⟨ho, hr, rfl⟩))
    · rw [if_neg ho]
      exact step _ (Or.inr (Or.inr ⟨ho, rfl⟩))
def edgeF (u : Mem) (b M k f x : Nat) : Prop := (1 ≤ k ∧ k ≤ M ∧ u 16 k = nI b) ∧ (1 ≤ x ∧ x ≤ M ∧ u 16 x = nI b) ∧ u 18 (2 * k + f) = nI x
def upM (u : Mem) (b M : Nat) (w w' : Mem) : Prop := (∀ p, ¬ p = 24 → w' p = w p) ∧ (∀ j, 1 ≤ j → j ≤ M → (w 24 j).toInt ≤ (w' 24 j).toInt) ∧ (∀ g : Nat → Int, (∀ k f x, f < 2 → edgeF u b M k f x → g k ≤ g x) → (∀ j, 1 ≤ j → j ≤ M → (w 24 j).toInt ≤ g j) → ∀ j, 1 ≤ j → j ≤ M → (w' 24 j).toInt ≤ g j) ∧ ∀ Pr : Int32 → Prop, (∀ j, 1 ≤ j → j ≤ M → Pr (w 24 j)) → ∀ j, 1 ≤ j → j ≤ M → Pr (w' 24 j)
theorem upM.rf {u : Mem} {b M : Nat} {w : Mem} : upM u b M w w := ⟨fun _ _ => rfl, fun _ _ _ => Int.le_refl _, fun _ _ h => h, fun _ h => h⟩
theorem upM.tr {u : Mem} {b M : Nat} {w w' w'' : Mem} (h : upM u b M w w') (h' : upM u b M w' w'') : upM u b M w w'' := ⟨fun p hp => (h'.1 p hp).trans (h.1 p hp), fun j a c => Int.le_trans (h.2.1 j a c) (h'.2.1 j a c), fun g hg hw => h'.2.2.1 g hg (h.2.2.1 g hg hw), fun Pr hw => h'.2.2.2 Pr (h.2.2.2 Pr hw)⟩
def sB (w : Mem) : Nat → Int
  | 0 => 0
  | n + 1 => sB w n + (w 24 (n + 1)).toInt
theorem sB_mono {w w' : Mem} : ∀ M : Nat, (∀ j, 1 ≤ j → j ≤ M → (w 24 j).toInt ≤ (w' 24 j).toInt) → sB w M ≤ sB w' M := by
  intro M
  induction M with
  | zero => intro _; exact Int.le_refl _
  | succ M ih =>
    intro h
    have a := ih (fun j h1 h2 => h j h1 (by omega))
    have c := h (M + 1) (by omega) (Nat.le_refl _)
    unfold sB
    omega
theorem sB_lt {w w' : Mem} {x : Nat} : ∀ M : Nat, (∀ j, 1 ≤ j → j ≤ M → (w 24 j).toInt ≤ (w' 24 j).toInt) → 1 ≤ x → x ≤ M → (w 24 x).toInt < (w' 24 x).toInt → sB w M < sB w' M := by
  intro M
  induction M with
  | zero => intro _ h1 h2; omega
  | succ M ih =>
    intro h h1 h2 h3
    unfold sB
    by_cases e : x = M + 1
    · have a := sB_mono (w := w) (w' := w') M (fun j h1 h2 => h j h1 (by omega))
      rw [← e]
      omega
    · have a := ih (fun j h1 h2 => h j h1 (by omega)) h1 (by omega) h3
      have c := h (M + 1) (by omega) (Nat.le_refl _)
      omega
theorem sB_le {w : Mem} {T : Nat} : ∀ M : Nat, (∀ j, 1 ≤ j → j ≤ M → (w 24 j).toInt ≤ T) → sB w M ≤ ((M * T : Nat) : Int) := by
  intro M
  induction M with
  | zero => intro _; simp [sB]
  | succ M ih =>
    intro h
    have a := ih (fun j h1 h2 => h j h1 (by omega))
    have c := h (M + 1) (by omega) (Nat.le_refl _)
    unfold sB
    rw [Nat.succ_mul]
    omega
theorem sB_ge {w : Mem} : ∀ M : Nat, (∀ j, 1 ≤ j → j ≤ M → -1 ≤ (w 24 j).toInt) → -(M : Int) ≤ sB w M := by
  intro M
  induction M with
  | zero => intro _; simp [sB]
  | succ M ih =>
    intro h
    have a := ih (fun j h1 h2 => h j h1 (by omega))
    have c := h (M + 1) (by omega) (Nat.le_refl _)
    unfold sB
    omega
/-- the state of a spread: nothing raised yet, and every field seen leads no lower; or something raised -/
def SI (u : Mem) (b M : Nat) (w0 : Mem) (k f : Nat) (mo : Int32) (w : Mem) : Prop := upM u b M w0 w ∧ ((mo = 0 ∧ w = w0 ∧ ∀ k' f' x, f' < 2 → (k' < k ∨ (k' = k ∧ f' < f)) → edgeF u b M k' f' x → (w0 24 k').toInt ≤ (w0 24 x).toInt) ∨ (mo = 1 ∧ sB w0 M < sB w M))
theorem SI.skip {u : Mem} {b M : Nat} {w0 : Mem} {k f : Nat} {mo : Int32} {w : Mem} (h : SI u b M w0 k f mo w) (hno : ∀ x, edgeF u b M k f x → (w 24 k).toInt ≤ (w 24 x).toInt) : SI u b M w0 k (f + 1) mo w := by
  refine ⟨h.1, ?_⟩
  rcases h.2 with ⟨h1, h2, h3⟩ | h1
  · refine Or.inl ⟨h1, h2, fun k' f' x q1 q2 q3 => ?_⟩
    by_cases e : k' = k ∧ f' = f
    · obtain ⟨e1, e2⟩ := e
      subst e1; subst e2
      have := hno x q3
      rw [h2] at this
      exact this
    · exact h3 k' f' x q1 (by omega) q3
  · exact Or.inr h1
theorem SI.raise {u : Mem} {b M : Nat} {w0 : Mem} {k f x : Nat} {mo : Int32} {w : Mem} (h : SI u b M w0 k f mo w) (hf : f < 2) (he : edgeF u b M k f x) (hlt : ¬ w 24 k ≤ w 24 x) : SI u b M w0 k (f + 1) 1 (stM w 24 x (w 24 k)) := by
  rw [ti_le] at hlt
  have hup : upM u b M w (stM w 24 x (w 24 k)) := by
    refine ⟨fun p hp => stM_ne hp, fun j a c => ?_, fun g hg hw j a c => ?_, fun Pr hw j a c => ?_⟩
    · rw [stM_rs]
      by_cases e : j = x
      · rw [if_pos e, e]; omega
      · rw [if_neg e]; exact Int.le_refl _
    · rw [stM_rs]
      by_cases e : j = x
      · rw [if_pos e, e]
        exact Int.le_trans (hw k he.1.1 he.1.2.1) (hg k f x hf he)
      · rw [if_neg e]; exact hw j a c
    · rw [stM_rs]
      by_cases e : j = x
      · rw [if_pos e]; exact hw k he.1.1 he.1.2.1
      · rw [if_neg e]; exact hw j a c
  refine ⟨h.1.tr hup, Or.inr ⟨rfl, ?_⟩⟩
  have a := sB_mono M h.1.2.1
  have c := sB_lt (w := w) (w' := stM w 24 x (w 24 k)) (x := x) M hup.2.1 he.2.1.1 he.2.1.2.1 (by rw [stM_rs, if_pos rfl]; omega)
  omega
/-- one field of an object of the node -/
theorem spread_f {N M b k f : Nat} {κ : Int32 → Int32 → Int32 → Mem → Rs} {u w0 w : Mem} {mo : Int32} (hb : b < 3) (hM : u 15 1 = nI M) (hM2 : M ≤ 512) (hneg : ∀ j, 1 ≤ j → j ≤ M → u 16 j < 0 → ¬ u 16 j = nI b) (hw : ∀ p, ¬ p = 24 → w p = u p) (hk : 1 ≤ k ∧ k ≤ M) (ho : u 16 k = nI b) (hf : f < 2) (hs : SI u b M w0 k f mo w) (n : Nat) : ∃ mo' w', k_Md_spread_15 N κ (n + 1) (nI b) mo (nI k) (nI f) w = k_Md_spread_15 N κ n (nI b) mo' (nI k) (nI (f + 1)) w' ∧ SI u b M w0 k (f + 1) mo' w' ∧ ∀ p, ¬ p = 24 → w' p = u p := by
  have w15 := hw 15 (by decide)
  have w16 := hw 16 (by decide)
  have w18 := hw 18 (by decide)
  have hstep : k_Md_spread_15 N κ (n + 1) (nI b) mo (nI k) (nI f) w = bd (f_Md_there N (u 18 (2 * k + f)) w) (fun y12 u13 => if y12 = 0 then (k_Md_spread_15 N κ n (nI b) mo (nI k) (nI (f + 1)) u13) else (gd (inB (u 18 (2 * k + f)) 513) (if (u13 16 (u 18 (2 * k + f)).toNatClampNeg) = nI b then (gd (inB (nI k) 513) (gd (inB (u 18 (2 * k + f)) 513) (if (u13 24 k) ≤ (u13 24 (u 18 (2 * k + f)).toNatClampNeg) then (k_Md_spread_15 N κ n (nI b) mo (nI k) (nI (f + 1)) u13) else (gd (inB (nI k) 513) (gd (inB (u 18 (2 * k + f)) 513) (jn (stM u13 24 (u 18 (2 * k + f)).toNatClampNeg (u13 24 k)) (fun u18 => k_Md_spread_15 N κ n (nI b) 1 (nI k) (nI (f + 1)) u18))))))) else (k_Md_spread_15 N κ n (nI b) mo (nI k) (nI (f + 1)) u13)))) := by
    rw [k_Md_spread_15, if_neg (show ¬ (2 : Int32) ≤ nI f from nI_ge (b := 2) hf (by omega)), gdN (by omega) (by omega), two_eq, w16, w18]
    simp (disch := omega) only [nI_clamp, nI_1]
    rw [if_pos ho, gdN (by omega) (by omega)]
  rw [hstep]
  rcases num_or (u 18 (2 * k + f)) (M := M) hM2 with hx | ⟨x, x1, x2, ex⟩
  · rw [there_o (M := M) (by rw [w15]; exact hM) hx, bd_some, if_pos rfl]
    refine ⟨mo, w, rfl, hs.skip (fun x hx2 => ?_), hw⟩
    rw [hx2.2.2] at hx
    have q1 := hx2.2.1.1
    have q2 := hx2.2.1.2.1
    rcases hx with hx | hx
    · have : x < 1 := (nI_ltI (b := 1) (by omega) (by omega)).mp hx
      omega
    · have := (nI_ltI (by omega) (by omega)).mp hx
      omega
  · rw [ex]
    by_cases hneg2 : u 16 x < 0
    · rw [there_d (M := M) (by rw [w15]; exact hM) hM2 x1 x2 (by rw [w16]; exact hneg2), bd_some, if_pos rfl]
      refine ⟨mo, w, rfl, hs.skip (fun x' hx2 => ?_), hw⟩
      have e : x' = x := nI_inj (hx2.2.2.symm.trans ex) (by have := hx2.2.1.2.1; omega) (by omega)
      rw [e] at hx2
      exact absurd hx2.2.1.2.2 (hneg x x1 x2 hneg2)
    · rw [there_t (M := M) (by rw [w15]; exact hM) hM2 x1 x2 (by rw [w16]; exact hneg2), bd_some, if_neg (by decide), gdN (by omega) (by omega)]
      simp (disch := omega) only [nI_clamp, gdN, jn]
      by_cases ho2 : u 16 x = nI b
      · rw [w16, if_pos ho2]
        by_cases hle : w 24 k ≤ w 24 x
        · rw [if_pos hle]
          refine ⟨mo, w, rfl, hs.skip (fun x' hx2 => ?_), hw⟩
          have e : x' = x := nI_inj (hx2.2.2.symm.trans ex) (by have := hx2.2.1.2.1; omega) (by omega)
          rw [e]
          exact ti_le.mp hle
        · rw [if_neg hle]
          exact ⟨1, _, rfl, hs.raise hf ⟨⟨hk.1, hk.2, ho⟩, ⟨x1, x2, ho2⟩, ex⟩ hle, fun p hp => by rw [stM_ne hp]; exact hw p hp⟩
      · rw [w16, if_neg ho2]
        refine ⟨mo, w, rfl, hs.skip (fun x' hx2 => ?_), hw⟩
        have e : x' = x := nI_inj (hx2.2.2.symm.trans ex) (by have := hx2.2.1.2.1; omega) (by omega)
        rw [e] at hx2
        exact absurd hx2.2.1.2.2 ho2
