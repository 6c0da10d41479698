/-! Pure: raise, carry, arrive. -/
theorem lower_eq {N b : Nat} {x : Int32} {u : Mem} (hb : b < 3) : f_Sh_lower N (nI b) x u = some (0, stM u 13 b (imn (u 13 b) x)) := by
  unfold f_Sh_lower
  dsimp only [jn]
  rw [gdN hb (by omega), gdN hb (by omega)]
  simp (disch := omega) only [nI_clamp]
def raiseC (v : Mem) (s : Nat) (x : Int32) : Mem := if x ≤ v 5 s then v else stM (stM v 13 (s / 8) (imn (v 13 (s / 8)) (v 5 s))) 5 s x
theorem raise_eq {N s : Nat} {x : Int32} {u : Mem} (hs : s < 24) : f_Sh_raise N (nI s) x u = some (0, raiseC u s x) := by
  unfold f_Sh_raise raiseC
  rw [entryAt_eq hs, bd_some]
  split
  · rfl
  · rw [nodeOf_eq (by omega), bd_some, lower_eq (by omega), bd_some, setEntry_eq hs, bd_some]
def raiseM (m : Mem) (k o : Nat) (x : Int32) : Mem := if x ≤ m 17 k then m else stM (stM m 22 o (imn (m 22 o) (m 17 k))) 17 k x
theorem raiseM_eq {N k o : Nat} {x : Int32} {m : Mem} (hk : k ≤ 512) (ho : o < 3) (h16 : m 16 k = nI o) : f_Md_raise N (nI k) x m = some (0, raiseM m k o x) := by
  unfold f_Md_raise raiseM
  dsimp only [jn]
  rw [gdN (by omega) (by omega), gdN (by omega) (by omega)]
  simp (disch := omega) only [nI_clamp]
  split
  · rfl
  · rw [h16, gdN ho (by omega)]
    simp (disch := omega) only [nI_clamp]
    rw [gdN ho (by omega), gdN ho (by omega), gdN (by omega) (by omega), gdN (by omega) (by omega)]
    by_cases h : m 22 o ≤ m 17 k
    · rw [if_pos h, show imn (m 22 o) (m 17 k) = m 22 o from if_neg (fun z => by rw [ti_le] at h; rw [ti_lt] at z; omega)]
    · rw [if_neg h, show imn (m 22 o) (m 17 k) = m 17 k from if_pos (by rw [ti_le] at h; rw [ti_lt]; omega), gdN (by omega) (by omega)]
/-- what carry does to the entry -/
def tailC (v : Mem) (s : Nat) : Mem := if v 5 s = -1 then stM (stM v 5 s (v 0 7)) 13 (s / 8) (imn (v 13 (s / 8)) (v 0 8)) else raiseC v s (v 0 7)
def tailM (m : Mem) (k o : Nat) : Mem := if m 17 k < 0 then stM (stM m 17 k (m 15 0)) 22 o (imn (m 22 o) (m 15 9)) else raiseM m k o (m 15 0)
/-- a row of exits put: the stamp anew where the row is, a new row else -/
def putR (v w : Mem) (X : Nat) (a o x : Int32) (X' : Nat) : Prop := (∃ r, r < X ∧ v 7 r = a ∧ v 8 r = o ∧ w = stM v 9 r x ∧ X' = X) ∨ ((∀ j, j < X → ¬ (v 7 j = a ∧ v 8 j = o)) ∧ X' = X + 1 ∧ ∃ p, p ≤ X ∧ insR v w p X a o x ∧ (∀ i, p ≤ i → i < X → o.toInt < (v 8 i).toInt) ∧ (0 < p → (v 8 (p - 1)).toInt ≤ o.toInt))
theorem put_eq {N X : Nat} {a o x : Int32} {v : Mem} (hN : 600 ≤ N) (hX : v 6 3 = nI X) (hX2 : X ≤ 105) (hu : uniq78 X v) (hroom : (∀ j, j < X → ¬ (v 7 j = a ∧ v 8 j = o)) → X < 105) : ∃ w X', f_Xt_put N a o x v = some (0, w) ∧ putR v w X a o x X' := by
  unfold f_Xt_put
  by_cases hex : ∃ r, r < X ∧ v 7 r = a ∧ v 8 r = o
  · obtain ⟨r, r1, r2, r3⟩ := hex
    refine ⟨stM v 9 r x, X, ?_, Or.inl ⟨r, r1, r2, r3, rfl, rfl⟩⟩
    rw [rowOf_some hN hX hX2 hu r1 r2 r3, bd_some, if_neg (m1_ne (by omega)), gdN (by omega) (by omega)]
    simp (disch := omega) only [nI_clamp]
    rfl
  · have hno : ∀ j, j < X → ¬ (v 7 j = a ∧ v 8 j = o) := fun j hj z => hex ⟨j, hj, z.1, z.2⟩
    have hlt := hroom hno
    obtain ⟨p, w, g1, g2, g3, g4, g5⟩ := insert_eq (N := N) (a := a) (o := o) (v := x) hN hX hlt
    refine ⟨w, X + 1, ?_, Or.inr ⟨hno, rfl, p, g2, g3, g4, g5⟩⟩
    rw [rowOf_none hN hX hX2 hno, bd_some, if_pos rfl, hX, if_neg (show ¬ (105 : Int32) ≤ nI X from nI_ge (b := 105) hlt (by omega)), g1, bd_some]
theorem insR.oth {u w : Mem} {p X : Nat} {a o v : Int32} (h : insR u w p X a o v) {q : Nat} (h6 : ¬ q = 6) (h7 : ¬ q = 7) (h8 : ¬ q = 8) (h9 : ¬ q = 9) : w q = u q := h.1 q h6 h7 h8 h9
theorem putR.oth {v w : Mem} {X X' : Nat} {a o x : Int32} (h : putR v w X a o x X') {q : Nat} (h6 : ¬ q = 6) (h7 : ¬ q = 7) (h8 : ¬ q = 8) (h9 : ¬ q = 9) : w q = v q := by
  rcases h with ⟨r, -, -, -, rfl, -⟩ | ⟨-, -, p, -, h, -⟩
  · exact stM_ne h9
  · exact h.oth h6 h7 h8 h9
/-- carry: nothing where the reference stays on its node or is of no object that is there; else the exit's row, and the entry -/
def carR (v w : Mem) (X s b : Nat) (y : Int32) (X' : Nat) : Prop := ∃ v1, (b = s / 8 ∧ v1 = v ∧ X' = X ∨ ¬ b = s / 8 ∧ putR v v1 X (nI b) y (v 0 7) X') ∧ w = tailC v1 s
theorem carry_stay {N : Nat} {y a b : Int32} {v : Mem} {r : Int32} (h : f_Hp_slotOf N y v = some (r, v)) (h2 : a = b ∨ r = -1) : f_Sh_carry N y a b v = some (0, v) := by
  unfold f_Sh_carry
  rw [h, bd_some]
  by_cases e : a = b
  · rw [if_pos e]
  · rw [if_neg e, if_pos (h2.elim (fun z => absurd z e) id)]
theorem carry_eq {N X s b : Nat} {y a : Int32} {v : Mem} (hN : 600 ≤ N) (hs : s < 24) (hb : b < 3) (h : f_Hp_slotOf N y v = some (nI s, v)) (hab : ¬ a = nI b) (hX : v 6 3 = nI X) (hX2 : X ≤ 105) (hu : uniq78 X v) (hroom : ¬ b = s / 8 → (∀ j, j < X → ¬ (v 7 j = nI b ∧ v 8 j = y)) → X < 105) : ∃ w X', f_Sh_carry N y a (nI b) v = some (0, w) ∧ carR v w X s b y X' := by
  have tail : ∀ v1 : Mem, bd (f_Hp_entryAt N (nI s) v1) (fun y10 u11 => if y10 = (-1) then (bd (f_Hp_setEntry N (nI s) (u11 0 7) u11) (fun _y13 u14 => bd (f_Sh_lower N (nI (s / 8)) (u14 0 8) u14) (fun _y16 u17 => some (0, u17)))) else (bd (f_Sh_raise N (nI s) (u11 0 7) u11) (fun _y19 u20 => some (0, u20)))) = some (0, tailC v1 s) := by
    intro v1
    unfold tailC
    rw [entryAt_eq hs, bd_some]
    split
    · rw [setEntry_eq hs, bd_some, lower_eq (by omega), bd_some, stM_ne (by decide), stM_ne (by decide)]
    · rw [raise_eq hs, bd_some]
  unfold f_Sh_carry
  dsimp only [jn]
  rw [h, bd_some, if_neg hab, if_neg (m1_ne (by omega)), nodeOf_eq (by omega), bd_some, tail]
  by_cases e : b = s / 8
  · refine ⟨tailC v s, X, ?_, v, Or.inl ⟨e, rfl, rfl⟩, rfl⟩
    rw [if_pos (by rw [e])]
  · obtain ⟨w, X', g1, g2⟩ := put_eq (N := N) (a := nI b) (o := y) (x := v 0 7) hN hX hX2 hu (hroom e)
    refine ⟨tailC w s, X', ?_, w, Or.inr ⟨e, g2⟩, rfl⟩
    rw [if_neg (nI_ne e (by omega) (by omega)), g1, bd_some, tail]
/-- arrive -/
def arrM (m : Mem) (k o b : Nat) : Mem := tailM (if o = b then m else stM m 20 (3 * k + b) (m 15 0)) k o
theorem arrive_no {N : Nat} {y b : Int32} {m : Mem} (h : f_Md_there N y m = some (0, m)) : f_Md_arrive N y b m = some (0, m) := by
  unfold f_Md_arrive
  rw [h, bd_some, if_pos rfl]
theorem arrive_eq {N k o b : Nat} {m : Mem} (h : f_Md_there N (nI k) m = some (1, m)) (hk : k ≤ 512) (ho : o < 3) (hb : b < 3) (h16 : m 16 k = nI o) : f_Md_arrive N (nI k) (nI b) m = some (0, arrM m k o b) := by
  have tail : ∀ m1 : Mem, m1 16 k = nI o → gd (inB (nI k) 513) (if (m1 17 (nI k).toNatClampNeg) < 0 then (gd (inB (nI k) 513) (jn (stM m1 17 (nI k).toNatClampNeg (m1 15 0)) (fun u10 => gd (inB (nI o) 3) (if (u10 22 (nI o).toNatClampNeg) ≤ (u10 15 9) then (gd (inB (nI o) 3) (gd (inB (nI o) 3) (jn (stM u10 22 (nI o).toNatClampNeg (u10 22 (nI o).toNatClampNeg)) (fun u14 => some (0, u14))))) else (gd (inB (nI o) 3) (jn (stM u10 22 (nI o).toNatClampNeg (u10 15 9)) (fun u16 => some (0, u16)))))))) else (bd (f_Md_raise N (nI k) (m1 15 0) m1) (fun _y18 u19 => some (0, u19)))) = some (0, tailM m1 k o) := by
    intro m1 h1
    unfold tailM
    dsimp only [jn]
    rw [gdN (by omega) (by omega)]
    simp (disch := omega) only [nI_clamp]
    split
    · rw [gdN (by omega) (by omega), gdN ho (by omega)]
      rw [gdN ho (by omega), gdN ho (by omega), gdN ho (by omega), stM_ne (by decide), stM_ne (by decide)]
      by_cases h : m1 22 o ≤ m1 15 9
      · rw [if_pos h, show imn (m1 22 o) (m1 15 9) = m1 22 o from if_neg (fun z => by rw [ti_le] at h; rw [ti_lt] at z; omega)]
      · rw [if_neg h, show imn (m1 22 o) (m1 15 9) = m1 15 9 from if_pos (by rw [ti_le] at h; rw [ti_lt]; omega)]
    · rw [raiseM_eq hk ho h1, bd_some]
  unfold f_Md_arrive arrM
  rw [h, bd_some, if_neg (by decide), gdN (by omega) (by omega)]
  show (if m 16 (nI k).toNatClampNeg = nI b then _ else _) = _
  simp (disch := omega) only [nI_clamp]
  rw [h16]
  by_cases e : o = b
  · rw [if_pos (by rw [e]), if_pos e]
    have := tail m h16
    simp (disch := omega) only [nI_clamp] at this ⊢
    exact this
  · rw [if_neg (nI_ne e (by omega) (by omega)), if_neg e, root_eq2, gdN (by omega) (by omega)]
    simp (disch := omega) only [nI_clamp]
    have := tail (stM m 20 (3 * k + b) (m 15 0)) (by rw [stM_ne (by decide)]; exact h16)
    simp (disch := omega) only [nI_clamp] at this ⊢
    exact this
