/-- the locals that are known, as pairs -/
def lo_en (lo : List (Option Value)) : List (Nat × Value) := lo.zipIdx.filterMap (fun x => x.1.map (fun v => (x.2, v)))
theorem lo_mem {lo : List (Option Value)} {i : Nat} {v : Value} : (i, v) ∈ lo_en lo ↔ lo[i]? = some (some v) := by
  unfold lo_en
  rw [List.mem_filterMap]
  constructor
  · rintro ⟨⟨a, j⟩, h1, h2⟩
    rw [List.mem_zipIdx_iff_getElem?] at h1
    cases a with
    | none => cases h2
    | some w =>
      simp only [Option.map_some, Option.some.injEq, Prod.mk.injEq] at h2
      obtain ⟨rfl, rfl⟩ := h2
      exact h1
  · intro h
    exact ⟨(some v, i), List.mem_zipIdx_iff_getElem?.mpr h, rfl⟩
def LO (ls : Array Slot) (nL : Nat) (lo : List (Option Value)) : Prop := lv_has ls nL (lo_en lo) ∧ ∀ (i : Nat) (v : Value), lo[i]? = some (some v) → v.category = 1
theorem LO.at {ls : Array Slot} {nL : Nat} {lo : List (Option Value)} (h : LO ls nL lo) {i : Nat} {v : Value} (hi : lo[i]? = some (some v)) : ls[i]? = some (.val v) := h.1.2.2 (i, v) (lo_mem.mpr hi)
theorem lo_set {lo : List (Option Value)} {i j : Nat} {x : Option Value} {v : Value} (h : (lo.set i x)[j]? = some (some v)) : (j = i ∧ x = some v) ∨ (j ≠ i ∧ lo[j]? = some (some v)) := by
  by_cases e : j = i
  · subst e
    rw [List.getElem?_set] at h
    by_cases hl : j < lo.length
    · simp [hl] at h
      exact Or.inl ⟨rfl, h⟩
    · simp [hl] at h
  · rw [List.getElem?_set_ne (fun z => e z.symm)] at h
    exact Or.inr ⟨e, h⟩
theorem LO.store {ls ls1 : Array Slot} {nL i : Nat} {lo : List (Option Value)} {v : Value} (h : LO ls nL lo) (hv : v.category = 1) (h1 : lv_has ls1 nL ((i, v) :: (lo_en lo).filter (fun q => !(q.1 == i) && !(q.1 + 1 == i && q.2.category == 2)))) : LO ls1 nL (lo.set i (some v)) := by
  refine ⟨⟨h1.1, h1.2.1, ?_⟩, ?_⟩
  · rintro ⟨j, w⟩ hq
    rcases lo_set (lo_mem.mp hq) with ⟨e1, e2⟩ | ⟨e1, e2⟩
    · cases e2
      rw [e1]
      exact h1.2.2 (i, v) List.mem_cons_self
    · refine h1.2.2 (j, w) (List.mem_cons_of_mem _ (List.mem_filter.mpr ⟨lo_mem.mpr e2, ?_⟩))
      have c1 := h.2 j w e2
      simp [e1, c1]
  · intro j w hq
    rcases lo_set hq with ⟨e1, e2⟩ | ⟨e1, e2⟩
    · cases e2; exact hv
    · exact h.2 j w e2
theorem LO.drop {ls : Array Slot} {nL i : Nat} {lo : List (Option Value)} (h : LO ls nL lo) : LO ls nL (lo.set i none) := by
  refine ⟨⟨h.1.1, h.1.2.1, ?_⟩, ?_⟩
  · rintro ⟨j, w⟩ hq
    rcases lo_set (lo_mem.mp hq) with ⟨e1, e2⟩ | ⟨e1, e2⟩
    · cases e2
    · exact h.at e2
  · intro j w hq
    rcases lo_set hq with ⟨e1, e2⟩ | ⟨e1, e2⟩
    · cases e2
    · exact h.2 j w e2
/-- the machine, at pc with locals lo, stack st and memory μ, comes to a state with Q: in every heap that holds the world of μ -/
def VJ (p : Program) (l : Launch) (e : Env) (fr rc rs rl : Nat) (s : State) (m : MethodId) (args : Array Value) (below : List Frame) (meth : Method) (c : Code) (cells slots : Nat) (Q : State → Prop) (A : Nat → Prop) (cc : ByteArray) (nL : Nat) (own : String) (D : va_G) (cA : ClassId) (wf : Mem → va_W) (pc : Nat) (lo : List (Option Value)) (st : List Value) (μ : Mem) : Prop :=
  p.tables.exec = Jvm.exec → c.code = cc → c.maxLocals = nL → s.vm.findClass own = some m.cls → (∀ w ∈ lw_gd, w.before args s = true) → (∀ q, s.heap.size ≤ q → A q) → va_K D vwCl [(cA, .int)] s → (cells ≤ rc ∧ slots ≤ rs) →
  ∀ (H : Heap) (locs : List Loc) (ls : Array Slot), va_P D vwCl (wf μ) H → va_D A (wf μ) → va_S A s.heap H locs → LO ls nL lo → W p l e { frames := fr, cells := rc, slots := rs, locals := rl } s m args below meth c H locs cells slots Q (F0 m pc ls st)
section VJ
variable {p : Program} {l : Launch} {e : Env} {fr rc rs rl : Nat} {s : State} {m : MethodId} {args : Array Value} {below : List Frame} {meth : Method} {c : Code} {cells slots : Nat} {Q : State → Prop} {A : Nat → Prop} {cc : ByteArray} {nL : Nat} {own : String} {D : va_G} {cA : ClassId} {wf : Mem → va_W}
variable {pc q : Nat} {lo lo' : List (Option Value)} {st rest : List Value} {μ : Mem}
theorem v_iconst {n : Int} (v : Int32) (hd : decode cc pc = .ok (.iconst n, 1)) (hv : Int32.ofInt n = v) (hq : pc + 1 = q) (k : VJ p l e fr rc rs rl s m args below meth c cells slots Q A cc nL own D cA wf q lo (.int v :: rest) μ) : VJ p l e fr rc rs rl s m args below meth c cells slots Q A cc nL own D cA wf pc lo rest μ := by
  subst hq
  intro hx hb hml hown hts hA hK hcs H locs ls hP hD hS hl
  exact lv_iconst hx hb hd hv (k hx hb hml hown hts hA hK hcs H locs ls hP hD hS hl)
theorem v_bipush {n : Int} (v : Int32) (hd : decode cc pc = .ok (.bipush n, 2)) (hv : (Int8.ofInt n).toInt32 = v) (hq : pc + 2 = q) (k : VJ p l e fr rc rs rl s m args below meth c cells slots Q A cc nL own D cA wf q lo (.int v :: rest) μ) : VJ p l e fr rc rs rl s m args below meth c cells slots Q A cc nL own D cA wf pc lo rest μ := by
  subst hq
  intro hx hb hml hown hts hA hK hcs H locs ls hP hD hS hl
  exact lv_bipush hx hb hd hv (k hx hb hml hown hts hA hK hcs H locs ls hP hD hS hl)
theorem v_sipush {n : Int} (v : Int32) (hd : decode cc pc = .ok (.sipush n, 3)) (hv : (Int16.ofInt n).toInt32 = v) (hq : pc + 3 = q) (k : VJ p l e fr rc rs rl s m args below meth c cells slots Q A cc nL own D cA wf q lo (.int v :: rest) μ) : VJ p l e fr rc rs rl s m args below meth c cells slots Q A cc nL own D cA wf pc lo rest μ := by
  subst hq
  intro hx hb hml hown hts hA hK hcs H locs ls hP hD hS hl
  exact lv_sipush hx hb hd hv (k hx hb hml hown hts hA hK hcs H locs ls hP hD hS hl)
theorem v_ldc {v : Int32} {idx : Nat} (hw : (.constant own idx v : Cond) ∈ lw_gd) (hd : decode cc pc = .ok (.ldc idx, 2)) (hq : pc + 2 = q) (k : VJ p l e fr rc rs rl s m args below meth c cells slots Q A cc nL own D cA wf q lo (.int v :: rest) μ) : VJ p l e fr rc rs rl s m args below meth c cells slots Q A cc nL own D cA wf pc lo rest μ := by
  subst hq
  intro hx hb hml hown hts hA hK hcs H locs ls hP hD hS hl
  exact lv_ldc hx hb hown (hts _ hw) hd (k hx hb hml hown hts hA hK hcs H locs ls hP hD hS hl)
theorem v_iload_n {i : Fin 4} {x : Int32} (hd : decode cc pc = .ok (.iload_n i, 1)) (hi : lo[(i : Nat)]? = some (some (.int x))) (hq : pc + 1 = q) (k : VJ p l e fr rc rs rl s m args below meth c cells slots Q A cc nL own D cA wf q lo (.int x :: rest) μ) : VJ p l e fr rc rs rl s m args below meth c cells slots Q A cc nL own D cA wf pc lo rest μ := by
  subst hq
  intro hx hb hml hown hts hA hK hcs H locs ls hP hD hS hl
  exact lv_iload_n hx hb hd rfl (hl.at hi) (k hx hb hml hown hts hA hK hcs H locs ls hP hD hS hl)
theorem v_iload {i : Nat} {x : Int32} (hd : decode cc pc = .ok (.iload i, 2)) (hi : lo[i]? = some (some (.int x))) (hq : pc + 2 = q) (k : VJ p l e fr rc rs rl s m args below meth c cells slots Q A cc nL own D cA wf q lo (.int x :: rest) μ) : VJ p l e fr rc rs rl s m args below meth c cells slots Q A cc nL own D cA wf pc lo rest μ := by
  subst hq
  intro hx hb hml hown hts hA hK hcs H locs ls hP hD hS hl
  exact lv_iload hx hb hd (hl.at hi) (k hx hb hml hown hts hA hK hcs H locs ls hP hD hS hl)
theorem v_aload_n {i : Fin 4} {x : Nat} (hd : decode cc pc = .ok (.aload_n i, 1)) (hi : lo[(i : Nat)]? = some (some (.ref x))) (hq : pc + 1 = q) (k : VJ p l e fr rc rs rl s m args below meth c cells slots Q A cc nL own D cA wf q lo (.ref x :: rest) μ) : VJ p l e fr rc rs rl s m args below meth c cells slots Q A cc nL own D cA wf pc lo rest μ := by
  subst hq
  intro hx hb hml hown hts hA hK hcs H locs ls hP hD hS hl
  exact lv_aload_n hx hb hd rfl (hl.at hi) (k hx hb hml hown hts hA hK hcs H locs ls hP hD hS hl)
theorem v_aload {i : Nat} {x : Nat} (hd : decode cc pc = .ok (.aload i, 2)) (hi : lo[i]? = some (some (.ref x))) (hq : pc + 2 = q) (k : VJ p l e fr rc rs rl s m args below meth c cells slots Q A cc nL own D cA wf q lo (.ref x :: rest) μ) : VJ p l e fr rc rs rl s m args below meth c cells slots Q A cc nL own D cA wf pc lo rest μ := by
  subst hq
  intro hx hb hml hown hts hA hK hcs H locs ls hP hD hS hl
  exact lv_aload hx hb hd (hl.at hi) (k hx hb hml hown hts hA hK hcs H locs ls hP hD hS hl)
theorem v_iadd {x y : Int32} (hd : decode cc pc = .ok (.iadd, 1)) (hq : pc + 1 = q) (k : VJ p l e fr rc rs rl s m args below meth c cells slots Q A cc nL own D cA wf q lo (.int (x + y) :: rest) μ) : VJ p l e fr rc rs rl s m args below meth c cells slots Q A cc nL own D cA wf pc lo (.int y :: .int x :: rest) μ := by
  subst hq
  intro hx hb hml hown hts hA hK hcs H locs ls hP hD hS hl
  exact lv_iadd hx hb hd (k hx hb hml hown hts hA hK hcs H locs ls hP hD hS hl)
theorem v_isub {x y : Int32} (hd : decode cc pc = .ok (.isub, 1)) (hq : pc + 1 = q) (k : VJ p l e fr rc rs rl s m args below meth c cells slots Q A cc nL own D cA wf q lo (.int (x - y) :: rest) μ) : VJ p l e fr rc rs rl s m args below meth c cells slots Q A cc nL own D cA wf pc lo (.int y :: .int x :: rest) μ := by
  subst hq
  intro hx hb hml hown hts hA hK hcs H locs ls hP hD hS hl
  exact lv_isub hx hb hd (k hx hb hml hown hts hA hK hcs H locs ls hP hD hS hl)
theorem v_imul {x y : Int32} (hd : decode cc pc = .ok (.imul, 1)) (hq : pc + 1 = q) (k : VJ p l e fr rc rs rl s m args below meth c cells slots Q A cc nL own D cA wf q lo (.int (x * y) :: rest) μ) : VJ p l e fr rc rs rl s m args below meth c cells slots Q A cc nL own D cA wf pc lo (.int y :: .int x :: rest) μ := by
  subst hq
  intro hx hb hml hown hts hA hK hcs H locs ls hP hD hS hl
  exact lv_imul hx hb hd (k hx hb hml hown hts hA hK hcs H locs ls hP hD hS hl)
theorem v_iand {x y : Int32} (hd : decode cc pc = .ok (.iand, 1)) (hq : pc + 1 = q) (k : VJ p l e fr rc rs rl s m args below meth c cells slots Q A cc nL own D cA wf q lo (.int (x &&& y) :: rest) μ) : VJ p l e fr rc rs rl s m args below meth c cells slots Q A cc nL own D cA wf pc lo (.int y :: .int x :: rest) μ := by
  subst hq
  intro hx hb hml hown hts hA hK hcs H locs ls hP hD hS hl
  exact lv_iand hx hb hd (k hx hb hml hown hts hA hK hcs H locs ls hP hD hS hl)
theorem v_idiv {x y : Int32} (hd : decode cc pc = .ok (.idiv, 1)) (hne : ¬ y = 0) (hq : pc + 1 = q) (k : VJ p l e fr rc rs rl s m args below meth c cells slots Q A cc nL own D cA wf q lo (.int (x / y) :: rest) μ) : VJ p l e fr rc rs rl s m args below meth c cells slots Q A cc nL own D cA wf pc lo (.int y :: .int x :: rest) μ := by
  subst hq
  intro hx hb hml hown hts hA hK hcs H locs ls hP hD hS hl
  exact lv_idiv hx hb hd hne (k hx hb hml hown hts hA hK hcs H locs ls hP hD hS hl)
theorem v_dup {v : Value} (hd : decode cc pc = .ok (.dup, 1)) (hv : v.category = 1) (hq : pc + 1 = q) (k : VJ p l e fr rc rs rl s m args below meth c cells slots Q A cc nL own D cA wf q lo (v :: v :: rest) μ) : VJ p l e fr rc rs rl s m args below meth c cells slots Q A cc nL own D cA wf pc lo (v :: rest) μ := by
  subst hq
  intro hx hb hml hown hts hA hK hcs H locs ls hP hD hS hl
  exact lv_dup hx hb hd hv (k hx hb hml hown hts hA hK hcs H locs ls hP hD hS hl)
theorem v_istore_n {i : Fin 4} {x : Int32} (hd : decode cc pc = .ok (.istore_n i, 1)) (hq : pc + 1 = q) (hn : (i : Nat) < nL) (hl0 : lo.set (i : Nat) (some (.int x)) = lo') (k : VJ p l e fr rc rs rl s m args below meth c cells slots Q A cc nL own D cA wf q lo' rest μ) : VJ p l e fr rc rs rl s m args below meth c cells slots Q A cc nL own D cA wf pc lo (.int x :: rest) μ := by
  subst hq
  subst hl0
  intro hx hb hml hown hts hA hK hcs H locs ls hP hD hS hl
  exact lv_istore_n hx hb hd rfl hl.1 hn rfl (fun ls1 h1 => k hx hb hml hown hts hA hK hcs H locs ls1 hP hD hS (hl.store rfl h1))
theorem v_istore {i : Nat} {x : Int32} (hd : decode cc pc = .ok (.istore i, 2)) (hq : pc + 2 = q) (hn : i < nL) (hl0 : lo.set i (some (.int x)) = lo') (k : VJ p l e fr rc rs rl s m args below meth c cells slots Q A cc nL own D cA wf q lo' rest μ) : VJ p l e fr rc rs rl s m args below meth c cells slots Q A cc nL own D cA wf pc lo (.int x :: rest) μ := by
  subst hq
  subst hl0
  intro hx hb hml hown hts hA hK hcs H locs ls hP hD hS hl
  exact lv_istore hx hb hd hl.1 hn rfl (fun ls1 h1 => k hx hb hml hown hts hA hK hcs H locs ls1 hP hD hS (hl.store rfl h1))
theorem v_astore_n {i : Fin 4} {x : Nat} (hd : decode cc pc = .ok (.astore_n i, 1)) (hq : pc + 1 = q) (hn : (i : Nat) < nL) (hl0 : lo.set (i : Nat) (some (.ref x)) = lo') (k : VJ p l e fr rc rs rl s m args below meth c cells slots Q A cc nL own D cA wf q lo' rest μ) : VJ p l e fr rc rs rl s m args below meth c cells slots Q A cc nL own D cA wf pc lo (.ref x :: rest) μ := by
  subst hq
  subst hl0
  intro hx hb hml hown hts hA hK hcs H locs ls hP hD hS hl
  exact lv_astore_n hx hb hd rfl hl.1 hn rfl (fun ls1 h1 => k hx hb hml hown hts hA hK hcs H locs ls1 hP hD hS (hl.store rfl h1))
theorem v_astore {i : Nat} {x : Nat} (hd : decode cc pc = .ok (.astore i, 2)) (hq : pc + 2 = q) (hn : i < nL) (hl0 : lo.set i (some (.ref x)) = lo') (k : VJ p l e fr rc rs rl s m args below meth c cells slots Q A cc nL own D cA wf q lo' rest μ) : VJ p l e fr rc rs rl s m args below meth c cells slots Q A cc nL own D cA wf pc lo (.ref x :: rest) μ := by
  subst hq
  subst hl0
  intro hx hb hml hown hts hA hK hcs H locs ls hP hD hS hl
  exact lv_astore hx hb hd hl.1 hn rfl (fun ls1 h1 => k hx hb hml hown hts hA hK hcs H locs ls1 hP hD hS (hl.store rfl h1))
theorem v_iinc {i : Nat} {n : Int} {x : Int32} (v : Int32) (hd : decode cc pc = .ok (.iinc i n, 3)) (hv : Int32.ofInt n = v) (hq : pc + 3 = q) (hi : lo[i]? = some (some (.int x))) (hn : i < nL) (hl0 : lo.set i (some (.int (x + v))) = lo') (k : VJ p l e fr rc rs rl s m args below meth c cells slots Q A cc nL own D cA wf q lo' rest μ) : VJ p l e fr rc rs rl s m args below meth c cells slots Q A cc nL own D cA wf pc lo rest μ := by
  subst hq
  subst hl0
  subst hv
  intro hx hb hml hown hts hA hK hcs H locs ls hP hD hS hl
  obtain ⟨j, hj⟩ := List.getElem?_of_mem (lo_mem.mpr hi)
  exact lv_iinc hx hb hd hl.1 hj rfl hn rfl (fun ls1 h1 => k hx hb hml hown hts hA hK hcs H locs ls1 hP hD hS (hl.store rfl h1))
theorem v_drop (i : Nat) (hl0 : lo.set i none = lo') (k : VJ p l e fr rc rs rl s m args below meth c cells slots Q A cc nL own D cA wf pc lo' st μ) : VJ p l e fr rc rs rl s m args below meth c cells slots Q A cc nL own D cA wf pc lo st μ := by
  subst hl0
  intro hx hb hml hown hts hA hK hcs H locs ls hP hD hS hl
  exact k hx hb hml hown hts hA hK hcs H locs ls hP hD hS hl.drop
theorem v_goto {off : Int} (tgt : Nat) (hd : decode cc pc = .ok (.goto off, 3)) (ht : (pc : Int) + off = (tgt : Int)) (k : VJ p l e fr rc rs rl s m args below meth c cells slots Q A cc nL own D cA wf tgt lo st μ) : VJ p l e fr rc rs rl s m args below meth c cells slots Q A cc nL own D cA wf pc lo st μ := by
  intro hx hb hml hown hts hA hK hcs H locs ls hP hD hS hl
  exact lv_goto hx hb hd ht (k hx hb hml hown hts hA hK hcs H locs ls hP hD hS hl)
theorem v_icmp_eq {x y : Int32} {off : Int} (tgt : Nat) (hd : decode cc pc = .ok (.if_icmp .eq off, 3)) (ht : (pc : Int) + off = (tgt : Int)) (hq : pc + 3 = q) (kt : x = y → VJ p l e fr rc rs rl s m args below meth c cells slots Q A cc nL own D cA wf tgt lo rest μ) (kf : ¬ x = y → VJ p l e fr rc rs rl s m args below meth c cells slots Q A cc nL own D cA wf q lo rest μ) : VJ p l e fr rc rs rl s m args below meth c cells slots Q A cc nL own D cA wf pc lo (.int y :: .int x :: rest) μ := by
  subst hq
  intro hx hb hml hown hts hA hK hcs H locs ls hP hD hS hl
  exact lv_icmp_eq hx hb hd ht (fun h => kt h hx hb hml hown hts hA hK hcs H locs ls hP hD hS hl) (fun h => kf h hx hb hml hown hts hA hK hcs H locs ls hP hD hS hl)
theorem v_icmp_lt {x y : Int32} {off : Int} (tgt : Nat) (hd : decode cc pc = .ok (.if_icmp .lt off, 3)) (ht : (pc : Int) + off = (tgt : Int)) (hq : pc + 3 = q) (kt : x < y → VJ p l e fr rc rs rl s m args below meth c cells slots Q A cc nL own D cA wf tgt lo rest μ) (kf : ¬ x < y → VJ p l e fr rc rs rl s m args below meth c cells slots Q A cc nL own D cA wf q lo rest μ) : VJ p l e fr rc rs rl s m args below meth c cells slots Q A cc nL own D cA wf pc lo (.int y :: .int x :: rest) μ := by
  subst hq
  intro hx hb hml hown hts hA hK hcs H locs ls hP hD hS hl
  exact lv_icmp_lt hx hb hd ht (fun h => kt h hx hb hml hown hts hA hK hcs H locs ls hP hD hS hl) (fun h => kf h hx hb hml hown hts hA hK hcs H locs ls hP hD hS hl)
theorem v_icmp_ge {x y : Int32} {off : Int} (tgt : Nat) (hd : decode cc pc = .ok (.if_icmp .ge off, 3)) (ht : (pc : Int) + off = (tgt : Int)) (hq : pc + 3 = q) (kt : y ≤ x → VJ p l e fr rc rs rl s m args below meth c cells slots Q A cc nL own D cA wf tgt lo rest μ) (kf : ¬ y ≤ x → VJ p l e fr rc rs rl s m args below meth c cells slots Q A cc nL own D cA wf q lo rest μ) : VJ p l e fr rc rs rl s m args below meth c cells slots Q A cc nL own D cA wf pc lo (.int y :: .int x :: rest) μ := by
  subst hq
  intro hx hb hml hown hts hA hK hcs H locs ls hP hD hS hl
  exact lv_icmp_ge hx hb hd ht (fun h => kt h hx hb hml hown hts hA hK hcs H locs ls hP hD hS hl) (fun h => kf h hx hb hml hown hts hA hK hcs H locs ls hP hD hS hl)
theorem v_icmp_gt {x y : Int32} {off : Int} (tgt : Nat) (hd : decode cc pc = .ok (.if_icmp .gt off, 3)) (ht : (pc : Int) + off = (tgt : Int)) (hq : pc + 3 = q) (kt : y < x → VJ p l e fr rc rs rl s m args below meth c cells slots Q A cc nL own D cA wf tgt lo rest μ) (kf : ¬ y < x → VJ p l e fr rc rs rl s m args below meth c cells slots Q A cc nL own D cA wf q lo rest μ) : VJ p l e fr rc rs rl s m args below meth c cells slots Q A cc nL own D cA wf pc lo (.int y :: .int x :: rest) μ := by
  subst hq
  intro hx hb hml hown hts hA hK hcs H locs ls hP hD hS hl
  exact lv_icmp_gt hx hb hd ht (fun h => kt h hx hb hml hown hts hA hK hcs H locs ls hP hD hS hl) (fun h => kf h hx hb hml hown hts hA hK hcs H locs ls hP hD hS hl)
theorem v_icmp_le {x y : Int32} {off : Int} (tgt : Nat) (hd : decode cc pc = .ok (.if_icmp .le off, 3)) (ht : (pc : Int) + off = (tgt : Int)) (hq : pc + 3 = q) (kt : x ≤ y → VJ p l e fr rc rs rl s m args below meth c cells slots Q A cc nL own D cA wf tgt lo rest μ) (kf : ¬ x ≤ y → VJ p l e fr rc rs rl s m args below meth c cells slots Q A cc nL own D cA wf q lo rest μ) : VJ p l e fr rc rs rl s m args below meth c cells slots Q A cc nL own D cA wf pc lo (.int y :: .int x :: rest) μ := by
  subst hq
  intro hx hb hml hown hts hA hK hcs H locs ls hP hD hS hl
  exact lv_icmp_le hx hb hd ht (fun h => kt h hx hb hml hown hts hA hK hcs H locs ls hP hD hS hl) (fun h => kf h hx hb hml hown hts hA hK hcs H locs ls hP hD hS hl)
theorem v_icmp_ne {x y : Int32} {off : Int} (tgt : Nat) (hd : decode cc pc = .ok (.if_icmp .ne off, 3)) (ht : (pc : Int) + off = (tgt : Int)) (hq : pc + 3 = q) (kt : x = y → VJ p l e fr rc rs rl s m args below meth c cells slots Q A cc nL own D cA wf q lo rest μ) (kf : ¬ x = y → VJ p l e fr rc rs rl s m args below meth c cells slots Q A cc nL own D cA wf tgt lo rest μ) : VJ p l e fr rc rs rl s m args below meth c cells slots Q A cc nL own D cA wf pc lo (.int y :: .int x :: rest) μ := by
  subst hq
  intro hx hb hml hown hts hA hK hcs H locs ls hP hD hS hl
  exact lv_icmp_ne hx hb hd ht (fun h => kf h hx hb hml hown hts hA hK hcs H locs ls hP hD hS hl) (fun h => kt h hx hb hml hown hts hA hK hcs H locs ls hP hD hS hl)
theorem v_if_eq {x : Int32} {off : Int} (tgt : Nat) (hd : decode cc pc = .ok (.ifCond .eq off, 3)) (ht : (pc : Int) + off = (tgt : Int)) (hq : pc + 3 = q) (kt : x = 0 → VJ p l e fr rc rs rl s m args below meth c cells slots Q A cc nL own D cA wf tgt lo rest μ) (kf : ¬ x = 0 → VJ p l e fr rc rs rl s m args below meth c cells slots Q A cc nL own D cA wf q lo rest μ) : VJ p l e fr rc rs rl s m args below meth c cells slots Q A cc nL own D cA wf pc lo (.int x :: rest) μ := by
  subst hq
  intro hx hb hml hown hts hA hK hcs H locs ls hP hD hS hl
  exact lv_if_eq hx hb hd ht (fun h => kt h hx hb hml hown hts hA hK hcs H locs ls hP hD hS hl) (fun h => kf h hx hb hml hown hts hA hK hcs H locs ls hP hD hS hl)
theorem v_if_lt {x : Int32} {off : Int} (tgt : Nat) (hd : decode cc pc = .ok (.ifCond .lt off, 3)) (ht : (pc : Int) + off = (tgt : Int)) (hq : pc + 3 = q) (kt : x < 0 → VJ p l e fr rc rs rl s m args below meth c cells slots Q A cc nL own D cA wf tgt lo rest μ) (kf : ¬ x < 0 → VJ p l e fr rc rs rl s m args below meth c cells slots Q A cc nL own D cA wf q lo rest μ) : VJ p l e fr rc rs rl s m args below meth c cells slots Q A cc nL own D cA wf pc lo (.int x :: rest) μ := by
  subst hq
  intro hx hb hml hown hts hA hK hcs H locs ls hP hD hS hl
  exact lv_if_lt hx hb hd ht (fun h => kt h hx hb hml hown hts hA hK hcs H locs ls hP hD hS hl) (fun h => kf h hx hb hml hown hts hA hK hcs H locs ls hP hD hS hl)
theorem v_if_ge {x : Int32} {off : Int} (tgt : Nat) (hd : decode cc pc = .ok (.ifCond .ge off, 3)) (ht : (pc : Int) + off = (tgt : Int)) (hq : pc + 3 = q) (kt : 0 ≤ x → VJ p l e fr rc rs rl s m args below meth c cells slots Q A cc nL own D cA wf tgt lo rest μ) (kf : ¬ 0 ≤ x → VJ p l e fr rc rs rl s m args below meth c cells slots Q A cc nL own D cA wf q lo rest μ) : VJ p l e fr rc rs rl s m args below meth c cells slots Q A cc nL own D cA wf pc lo (.int x :: rest) μ := by
  subst hq
  intro hx hb hml hown hts hA hK hcs H locs ls hP hD hS hl
  exact lv_if_ge hx hb hd ht (fun h => kt h hx hb hml hown hts hA hK hcs H locs ls hP hD hS hl) (fun h => kf h hx hb hml hown hts hA hK hcs H locs ls hP hD hS hl)
theorem v_if_gt {x : Int32} {off : Int} (tgt : Nat) (hd : decode cc pc = .ok (.ifCond .gt off, 3)) (ht : (pc : Int) + off = (tgt : Int)) (hq : pc + 3 = q) (kt : 0 < x → VJ p l e fr rc rs rl s m args below meth c cells slots Q A cc nL own D cA wf tgt lo rest μ) (kf : ¬ 0 < x → VJ p l e fr rc rs rl s m args below meth c cells slots Q A cc nL own D cA wf q lo rest μ) : VJ p l e fr rc rs rl s m args below meth c cells slots Q A cc nL own D cA wf pc lo (.int x :: rest) μ := by
  subst hq
  intro hx hb hml hown hts hA hK hcs H locs ls hP hD hS hl
  exact lv_if_gt hx hb hd ht (fun h => kt h hx hb hml hown hts hA hK hcs H locs ls hP hD hS hl) (fun h => kf h hx hb hml hown hts hA hK hcs H locs ls hP hD hS hl)
theorem v_if_le {x : Int32} {off : Int} (tgt : Nat) (hd : decode cc pc = .ok (.ifCond .le off, 3)) (ht : (pc : Int) + off = (tgt : Int)) (hq : pc + 3 = q) (kt : x ≤ 0 → VJ p l e fr rc rs rl s m args below meth c cells slots Q A cc nL own D cA wf tgt lo rest μ) (kf : ¬ x ≤ 0 → VJ p l e fr rc rs rl s m args below meth c cells slots Q A cc nL own D cA wf q lo rest μ) : VJ p l e fr rc rs rl s m args below meth c cells slots Q A cc nL own D cA wf pc lo (.int x :: rest) μ := by
  subst hq
  intro hx hb hml hown hts hA hK hcs H locs ls hP hD hS hl
  exact lv_if_le hx hb hd ht (fun h => kt h hx hb hml hown hts hA hK hcs H locs ls hP hD hS hl) (fun h => kf h hx hb hml hown hts hA hK hcs H locs ls hP hD hS hl)
theorem v_if_ne {x : Int32} {off : Int} (tgt : Nat) (hd : decode cc pc = .ok (.ifCond .ne off, 3)) (ht : (pc : Int) + off = (tgt : Int)) (hq : pc + 3 = q) (kt : x = 0 → VJ p l e fr rc rs rl s m args below meth c cells slots Q A cc nL own D cA wf q lo rest μ) (kf : ¬ x = 0 → VJ p l e fr rc rs rl s m args below meth c cells slots Q A cc nL own D cA wf tgt lo rest μ) : VJ p l e fr rc rs rl s m args below meth c cells slots Q A cc nL own D cA wf pc lo (.int x :: rest) μ := by
  subst hq
  intro hx hb hml hown hts hA hK hcs H locs ls hP hD hS hl
  exact lv_if_ne hx hb hd ht (fun h => kf h hx hb hml hown hts hA hK hcs H locs ls hP hD hS hl) (fun h => kt h hx hb hml hown hts hA hK hcs H locs ls hP hD hS hl)
theorem v_ald (q0 : Nat) {a n : Nat} {f : Nat → Int32} {i : Int32} (he : (wf μ)[q0]? = some (a, .inl (cA, n, .inl f))) (hd : decode cc pc = .ok (.iaload, 1)) (hin : inB i n) (hq : pc + 1 = q) (k : VJ p l e fr rc rs rl s m args below meth c cells slots Q A cc nL own D cA wf q lo (.int (f i.toNatClampNeg) :: rest) μ) : VJ p l e fr rc rs rl s m args below meth c cells slots Q A cc nL own D cA wf pc lo (.int i :: .ref a :: rest) μ := by
  subst hq
  intro hx hb hml hown hts hA hK hcs H locs ls hP hD hS hl
  exact va_iald hx hb hK hP q0 0 he rfl hin hd (k hx hb hml hown hts hA hK hcs H locs ls hP hD hS hl)
theorem v_ast (q0 : Nat) {a n : Nat} {f : Nat → Int32} {i x : Int32} {μ2 μ3 : Mem} (he : (wf μ)[q0]? = some (a, .inl (cA, n, .inl f))) (he2 : (wf μ).set q0 (a, .inl (cA, n, .inl (upd f i.toNatClampNeg x))) = wf μ3) (hm : μ2 = μ3) (hd : decode cc pc = .ok (.iastore, 1)) (hin : inB i n) (hq : pc + 1 = q) (k : VJ p l e fr rc rs rl s m args below meth c cells slots Q A cc nL own D cA wf q lo rest μ2) : VJ p l e fr rc rs rl s m args below meth c cells slots Q A cc nL own D cA wf pc lo (.int x :: .int i :: .ref a :: rest) μ := by
  subst hq
  subst hm
  intro hx hb hml hown hts hA hK hcs H locs ls hP hD hS hl
  refine va_iast hx hb hK hP hD hS q0 0 he rfl hin hd (fun H1 locs1 h1 h2 h3 => ?_)
  rw [he2] at h1 h2
  exact k hx hb hml hown hts hA hK hcs H1 locs1 ls h1 h2 h3 hl
theorem v_get (q0 : Nat) {a ci N idx kf : Nat} {C ref nm ty : String} {T : u_T} {fs : List Value} {v : Value} (he : (wf μ)[q0]? = some (a, .inr (ci, fs))) (hc : vwCl[ci]? = some (C, T, N)) (hin : ∀ w ∈ u_ws C T N, w ∈ lw_gd) (hk : kf < N) (hT : (T kf).1 = ref ∧ (T kf).2.1 = nm ∧ (T kf).2.2.1 = ty) (hw : (.fieldLink own idx ref nm ty : Cond) ∈ lw_gd) (hv : fs[kf]? = some v) (hd : decode cc pc = .ok (.getfield idx, 3)) (hq : pc + 3 = q) (k : VJ p l e fr rc rs rl s m args below meth c cells slots Q A cc nL own D cA wf q lo (v :: rest) μ) : VJ p l e fr rc rs rl s m args below meth c cells slots Q A cc nL own D cA wf pc lo (.ref a :: rest) μ := by
  subst hq
  obtain ⟨rfl, rfl, rfl⟩ := hT
  intro hx hb hml hown hts hA hK hcs H locs ls hP hD hS hl
  exact va_get hx hb hts hin hown hK hP q0 he hc kf hk (hts _ hw) (fun _ h => h) hv hd (k hx hb hml hown hts hA hK hcs H locs ls hP hD hS hl)
theorem v_put (q0 : Nat) {a ci N idx kf : Nat} {C ref nm : String} {T : u_T} {fs : List Value} {x : Int32} {μ2 μ3 : Mem} (he : (wf μ)[q0]? = some (a, .inr (ci, fs))) (hc : vwCl[ci]? = some (C, T, N)) (hin : ∀ w ∈ u_ws C T N, w ∈ lw_gd) (t0 : Nat → FieldType) (ht0 : ∀ k, k < N → parseFieldDescriptor (T k).2.2.1 = some (t0 k)) (hnm : ∀ a, a < N → ∀ b, b < N → a ≠ b → (T a).2.1 ≠ (T b).2.1) (hk : kf < N) (hT : (T kf).1 = ref ∧ (T kf).2.1 = nm ∧ (T kf).2.2.1 = "I" ∧ (T kf).2.2.2 = false) (hw : (.fieldLink own idx ref nm "I" : Cond) ∈ lw_gd) (hlen : kf < fs.length) (he2 : (wf μ).set q0 (a, .inr (ci, fs.set kf (.int x))) = wf μ3) (hm : μ2 = μ3) (hd : decode cc pc = .ok (.putfield idx, 3)) (hq : pc + 3 = q) (k : VJ p l e fr rc rs rl s m args below meth c cells slots Q A cc nL own D cA wf q lo rest μ2) : VJ p l e fr rc rs rl s m args below meth c cells slots Q A cc nL own D cA wf pc lo (.int x :: .ref a :: rest) μ := by
  subst hq
  subst hm
  obtain ⟨h1, h2, h3, h4⟩ := hT
  intro hx hb hml hown hts hA hK hcs H locs ls hP hD hS hl
  refine va_put (ty := .int) hx hb hts hin t0 ht0 hnm hown hK hP hD hS q0 he hc kf hk (ref := ref) (index := idx) (by rw [h2, h3]; exact hts _ hw) (by rw [h1]; exact fun _ h => h) h4 (by rw [h3]; decide +kernel) rfl rfl hlen hd (fun H1 locs1 g1 g2 g3 => ?_)
  rw [he2] at g1 g2
  exact k hx hb hml hown hts hA hK hcs H1 locs1 ls g1 g2 g3 hl
theorem v_mmax {x y : Int32} {idx : Nat} (h1 : (.methodLink own idx Lib.Math.max.name : Cond) ∈ lw_gd) (h2 : (.static Lib.Math.max.name : Cond) ∈ lw_gd) (h3 : (.initialized "java/lang/Math" : Cond) ∈ lw_gd) (h4 : (.code Lib.Math.max.name Lib.Math.max.code 2 (some .int) : Cond) ∈ lw_gd) (hf : 1 ≤ fr) (hr : (rest.map fun v => v.category).sum + 13 ≤ rl) (hd : decode cc pc = .ok (.invokestatic idx, 3)) (hq : pc + 3 = q) (k : VJ p l e fr rc rs rl s m args below meth c cells slots Q A cc nL own D cA wf q lo (.int (if x < y then y else x) :: rest) μ) : VJ p l e fr rc rs rl s m args below meth c cells slots Q A cc nL own D cA wf pc lo (.int y :: .int x :: rest) μ := by
  subst hq
  intro hx hb hml hown hts hA hK hcs H locs ls hP hD hS hl
  exact va_mmax hx hb (hml.trans hl.1.1.symm) hown (hts _ h1) (hts _ h2) (hts _ h3) (hts _ h4) hf hr hcs.1 hcs.2 hd (k hx hb hml hown hts hA hK hcs H locs ls hP hD hS hl)
theorem v_mmin {x y : Int32} {idx : Nat} (h1 : (.methodLink own idx Lib.Math.min.name : Cond) ∈ lw_gd) (h2 : (.static Lib.Math.min.name : Cond) ∈ lw_gd) (h3 : (.initialized "java/lang/Math" : Cond) ∈ lw_gd) (h4 : (.code Lib.Math.min.name Lib.Math.min.code 2 (some .int) : Cond) ∈ lw_gd) (hf : 1 ≤ fr) (hr : (rest.map fun v => v.category).sum + 13 ≤ rl) (hd : decode cc pc = .ok (.invokestatic idx, 3)) (hq : pc + 3 = q) (k : VJ p l e fr rc rs rl s m args below meth c cells slots Q A cc nL own D cA wf q lo (.int (if y < x then y else x) :: rest) μ) : VJ p l e fr rc rs rl s m args below meth c cells slots Q A cc nL own D cA wf pc lo (.int y :: .int x :: rest) μ := by
  subst hq
  intro hx hb hml hown hts hA hK hcs H locs ls hP hD hS hl
  exact va_mmin hx hb (hml.trans hl.1.1.symm) hown (hts _ h1) (hts _ h2) (hts _ h3) (hts _ h4) hf hr hcs.1 hcs.2 hd (k hx hb hml hown hts hA hK hcs H locs ls hP hD hS hl)
theorem v_sld {bs L : Nat} {xs : Nat → Int32} {i : Int32} (hX : va_X bs L xs s s.heap) (hbl : bs < s.heap.size) (hbA : ¬ A bs) (hd : decode cc pc = .ok (.iaload, 1)) (hin : inB i L) (hq : pc + 1 = q) (k : VJ p l e fr rc rs rl s m args below meth c cells slots Q A cc nL own D cA wf q lo (.int (xs i.toNatClampNeg) :: rest) μ) : VJ p l e fr rc rs rl s m args below meth c cells slots Q A cc nL own D cA wf pc lo (.int i :: .ref bs :: rest) μ := by
  subst hq
  intro hx hb hml hown hts hA hK hcs H locs ls hP hD hS hl
  exact va_sld hx hb hX hbl hbA hS hin hd (k hx hb hml hown hts hA hK hcs H locs ls hP hD hS hl)
theorem v_slen {bs L : Nat} {xs : Nat → Int32} (hX : va_X bs L xs s s.heap) (hbl : bs < s.heap.size) (hbA : ¬ A bs) (hd : decode cc pc = .ok (.arraylength, 1)) (hq : pc + 1 = q) (k : VJ p l e fr rc rs rl s m args below meth c cells slots Q A cc nL own D cA wf q lo (.int (nI L) :: rest) μ) : VJ p l e fr rc rs rl s m args below meth c cells slots Q A cc nL own D cA wf pc lo (.ref bs :: rest) μ := by
  subst hq
  intro hx hb hml hown hts hA hK hcs H locs ls hP hD hS hl
  exact va_slen hx hb hX hbl hbA hS hd (k hx hb hml hown hts hA hK hcs H locs ls hP hD hS hl)
theorem v_tabIn {dflt l0 hi : Int} {offs : Array Int} {len : Nat} {x : Int32} {off : Int} (tgt : Nat) (hd : decode cc pc = .ok (.tableswitch dflt l0 hi offs, len)) (h1 : ¬ x.toInt < l0) (h2 : ¬ hi < x.toInt) (ho : offs[(x.toInt - l0).toNat]? = some off) (ht : (pc : Int) + off = (tgt : Int)) (k : VJ p l e fr rc rs rl s m args below meth c cells slots Q A cc nL own D cA wf tgt lo rest μ) : VJ p l e fr rc rs rl s m args below meth c cells slots Q A cc nL own D cA wf pc lo (.int x :: rest) μ := by
  intro hx hb hml hown hts hA hK hcs H locs ls hP hD hS hl
  exact lv_tableIn hx hb hd h1 h2 ho ht (k hx hb hml hown hts hA hK hcs H locs ls hP hD hS hl)
theorem v_tabOut {dflt l0 hi : Int} {offs : Array Int} {len : Nat} {x : Int32} (tgt : Nat) (hd : decode cc pc = .ok (.tableswitch dflt l0 hi offs, len)) (h1 : x.toInt < l0 ∨ hi < x.toInt) (ht : (pc : Int) + dflt = (tgt : Int)) (k : VJ p l e fr rc rs rl s m args below meth c cells slots Q A cc nL own D cA wf tgt lo rest μ) : VJ p l e fr rc rs rl s m args below meth c cells slots Q A cc nL own D cA wf pc lo (.int x :: rest) μ := by
  intro hx hb hml hown hts hA hK hcs H locs ls hP hD hS hl
  exact lv_tableOut hx hb hd h1 ht (k hx hb hml hown hts hA hK hcs H locs ls hP hD hS hl)
end VJ
theorem tab_out {x : Int32} (c0 : ¬ x = 0) (c1 : ¬ x = 1) (c2 : ¬ x = 2) (c3 : ¬ x = 3) (c4 : ¬ x = 4) (c5 : ¬ x = 5) (c6 : ¬ x = 6) (c7 : ¬ x = 7) (c8 : ¬ x = 8) (c9 : ¬ x = 9) (c10 : ¬ x = 10) (c11 : ¬ x = 11) (c12 : ¬ x = 12) (c13 : ¬ x = 13) (c14 : ¬ x = 14) (c15 : ¬ x = 15) (c16 : ¬ x = 16) (c17 : ¬ x = 17) : x.toInt < 0 ∨ 17 < x.toInt := by
  apply Classical.byContradiction
  intro hn
  have h1 : vp_in x 18 := vp_in_iff.mpr ⟨by omega, by omega⟩
  obtain ⟨j, hj, rfl⟩ := vp_in_of h1 (by omega)
  match j, hj with
  | 0, _ => exact c0 rfl
  | 1, _ => exact c1 rfl
  | 2, _ => exact c2 rfl
  | 3, _ => exact c3 rfl
  | 4, _ => exact c4 rfl
  | 5, _ => exact c5 rfl
  | 6, _ => exact c6 rfl
  | 7, _ => exact c7 rfl
  | 8, _ => exact c8 rfl
  | 9, _ => exact c9 rfl
  | 10, _ => exact c10 rfl
  | 11, _ => exact c11 rfl
  | 12, _ => exact c12 rfl
  | 13, _ => exact c13 rfl
  | 14, _ => exact c14 rfl
  | 15, _ => exact c15 rfl
  | 16, _ => exact c16 rfl
  | 17, _ => exact c17 rfl
  | j + 18, hj => omega
/-- a method's world at its start and at its end; contracts of methods that make no cell: an int answer (a Boolean one too); none -/
abbrev sw_In (D : va_G) (cA : ClassId) (w0 : va_W) (sz : Nat) (U : State) : Prop := U.heap.size = sz ∧ va_P D vwCl w0 U.heap ∧ va_K D vwCl [(cA, .int)] U ∧ va_D (fun _ => True) w0
abbrev sw_Out (D : va_G) (cA : ClassId) (w0 : va_W) (sz : Nat) (wf : Mem → va_W) (u : Mem) (t : State) : Prop := va_P D vwCl (wf u) t.heap ∧ va_K D vwCl [(cA, .int)] t ∧ va_D (va_A w0 sz) (wf u)
abbrev CtI (l : Launch) (y : MethodName) (ws : List Cond) (fr rl : Nat) (D : va_G) (cA : ClassId) (av : List Value) (wf : Mem → va_W) (μ : Mem) (sz : Nat) (E : Int32 → Mem → Prop) : Prop :=
  Met l y ws { frames := fr, cells := 0, slots := 0, locals := rl } (va_Pc av (sw_In D cA (wf μ) sz)) (va_Qi E (sw_Out D cA (wf μ) sz wf) (va_A (wf μ) sz)) 0 0 (va_A (wf μ) sz)
abbrev CtV (l : Launch) (y : MethodName) (ws : List Cond) (fr rl : Nat) (D : va_G) (cA : ClassId) (av : List Value) (wf : Mem → va_W) (μ : Mem) (sz : Nat) (E : Mem → Prop) : Prop :=
  Met l y ws { frames := fr, cells := 0, slots := 0, locals := rl } (va_Pc av (sw_In D cA (wf μ) sz)) (va_Qv E (sw_Out D cA (wf μ) sz wf) (va_A (wf μ) sz)) 0 0 (va_A (wf μ) sz)
theorem sw_blind {D : va_G} {cA : ClassId} {av : List Value} {w0 : va_W} {sz : Nat} : FrameBlind (va_Pc av (sw_In D cA w0 sz)) := by
  intro a U g mk q
  obtain ⟨q0, q1, qP, qK, qD⟩ := q
  exact ⟨q0, q1, qP, va_K.moved (u := U) (U := U.calling g mk a) (Vm.Alike.refl U.vm) qK, qD⟩
/-- the arguments as the first locals -/
def lo_av (av : List Value) (n : Nat) : List (Option Value) := av.map some ++ List.replicate (n - av.length) none
theorem lv_args1 : ∀ (av : List Value) (k i : Nat) (v : Value), (∀ w ∈ av, w.category = 1) → av[i]? = some v → (k + i, v) ∈ lv_args k av := by
  intro av
  induction av with
  | nil => intro k i v _ h; cases h
  | cons a as ih =>
    intro k i v hc h
    have ha : a.category = 1 := hc a List.mem_cons_self
    unfold lv_args
    cases i with
    | zero =>
      cases h
      exact List.mem_cons_self
    | succ i =>
      refine List.mem_cons_of_mem _ ?_
      rw [if_neg (by rw [ha]; decide)]
      have e : k + (i + 1) = k + 1 + i := by omega
      rw [e]
      exact ih (k + 1) i v (fun w hw => hc w (List.mem_cons_of_mem _ hw)) h
theorem lo_start {av : List Value} {n : Nat} {ls : Array Slot} (hc : av.all (fun w => w.category == 1) = true) (h : lv_has ls n (lv_args 0 av)) : LO ls n (lo_av av n) := by
  have hc2 : ∀ w ∈ av, w.category = 1 := fun w hw => by simpa using List.all_eq_true.mp hc w hw
  have key : ∀ (i : Nat) (v : Value), (lo_av av n)[i]? = some (some v) → av[i]? = some v := by
    intro i v hi
    unfold lo_av at hi
    by_cases hl : i < av.length
    · rw [List.getElem?_append_left (by rw [List.length_map]; exact hl), List.getElem?_map] at hi
      cases ha : av[i]? with
      | none => rw [ha] at hi; cases hi
      | some w => rw [ha] at hi; cases hi; rfl
    · rw [List.getElem?_append_right (by rw [List.length_map]; omega), List.getElem?_replicate] at hi
      split at hi <;> cases hi
  refine ⟨⟨h.1, h.2.1, ?_⟩, ?_⟩
  · rintro ⟨j, w⟩ hq
    have h2 := lv_args1 av 0 j w hc2 (key j w (lo_mem.mp hq))
    rw [Nat.zero_add] at h2
    exact h.2.2 (j, w) h2
  · intro i v hi
    exact hc2 v (List.mem_of_getElem? (key i v hi))
theorem v_metI {l : Launch} {y : MethodName} {fr rl : Nat} {D : va_G} {cA : ClassId} {av : List Value} {wf : Mem → va_W} {μ : Mem} {sz : Nat} {E : Int32 → Mem → Prop} {cc : ByteArray} {maxL : Nat} {ty : FieldType} {own : String} (lo0 : List (Option Value)) (ho : y.cls = own) (hy : plainName y.cls = true) (hlen : (lg_sl av).length ≤ maxL) (hc : av.all (fun w => w.category == 1) = true) (h0 : lo_av av maxL = lo0) (hty : ∀ v u, E v u → narrow ty (.int v) = .int v)
    (body : ∀ (p : Program) (e : Env) (s : State) (m : MethodId) (args : Array Value) (below : List Frame) (meth : Method) (c : Code) (A : Nat → Prop) (Q : State → Prop), (∀ (v : Int32) (u : Mem) (pc : Nat) (lo : List (Option Value)), E v u → decode cc pc = .ok (.ireturn, 1) → VJ p l e fr 0 0 rl s m args below meth c 0 0 Q A cc maxL own D cA wf pc lo [.int v] u) → VJ p l e fr 0 0 rl s m args below meth c 0 0 Q A cc maxL own D cA wf 0 lo0 [] μ) :
    CtI l y (Cond.code y cc maxL (some ty) :: lw_gd) fr rl D cA av wf μ sz E := by
  subst h0
  subst ho
  refine Met.ofW (cc := cc) (maxL := maxL) (ret := (some ty)) hy rfl ?_
  intro p e s m args below meth c s₁ B hml hv
  obtain ⟨rfl, hsz, hP, hK, hD0⟩ := hv
  have hx := B.exec
  have hb := B.bytes
  have hr := B.returns
  have hts := atoms_spec (ws := Cond.code y cc maxL (some ty) :: lw_gd) B.pre
  have hown : s.vm.findClass y.cls = some m.cls := findClass_of_methodNamed B.named
  have hlocks := B.notSynchronized
  subst hsz
  have hD := hD0.self (sz := s.heap.size)
  have hl := lv_entry av (n := maxL) hlen
  rw [lg_entry_eq]
  refine body p e s m av.toArray below meth c (va_A (wf μ) s.heap.size) _ ?_ hx hb hml hown (fun w h => hts w (List.mem_cons_of_mem _ h)) (fun q h => Or.inr h) hK ⟨Nat.le_refl _, Nat.le_refl _⟩ _ _ _ hP hD va_S.rf (lo_start hc hl)
  · intro v u pc lo hE hd hx2 hb2 hml2 hown2 hts2 hA2 hK2 hcs2 H locs ls hP1 hD1 hS1 hl1
    exact W.zret (v := v) hx hb hr (hty v u hE) (fun t ht hW => ⟨⟨v, u, rfl, hE, by rw [ht]; exact hP1, va_K.moved hW.alike hK, hD1⟩, hS1.F ht⟩) hS1.2.2 hd
theorem v_metV {l : Launch} {y : MethodName} {fr rl : Nat} {D : va_G} {cA : ClassId} {av : List Value} {wf : Mem → va_W} {μ : Mem} {sz : Nat} {E : Mem → Prop} {cc : ByteArray} {maxL : Nat} {own : String} (lo0 : List (Option Value)) (ho : y.cls = own) (hy : plainName y.cls = true) (hlen : (lg_sl av).length ≤ maxL) (hc : av.all (fun w => w.category == 1) = true) (h0 : lo_av av maxL = lo0)
    (body : ∀ (p : Program) (e : Env) (s : State) (m : MethodId) (args : Array Value) (below : List Frame) (meth : Method) (c : Code) (A : Nat → Prop) (Q : State → Prop), (∀ (u : Mem) (pc : Nat) (lo : List (Option Value)), E u → decode cc pc = .ok (.return_, 1) → VJ p l e fr 0 0 rl s m args below meth c 0 0 Q A cc maxL own D cA wf pc lo [] u) → VJ p l e fr 0 0 rl s m args below meth c 0 0 Q A cc maxL own D cA wf 0 lo0 [] μ) :
    CtV l y (Cond.code y cc maxL none :: lw_gd) fr rl D cA av wf μ sz E := by
  subst h0
  subst ho
  refine Met.ofW (cc := cc) (maxL := maxL) (ret := none) hy rfl ?_
  intro p e s m args below meth c s₁ B hml hv
  obtain ⟨rfl, hsz, hP, hK, hD0⟩ := hv
  have hx := B.exec
  have hb := B.bytes
  have hr := B.returns
  have hts := atoms_spec (ws := Cond.code y cc maxL none :: lw_gd) B.pre
  have hown : s.vm.findClass y.cls = some m.cls := findClass_of_methodNamed B.named
  have hlocks := B.notSynchronized
  subst hsz
  have hD := hD0.self (sz := s.heap.size)
  have hl := lv_entry av (n := maxL) hlen
  rw [lg_entry_eq]
  refine body p e s m av.toArray below meth c (va_A (wf μ) s.heap.size) _ ?_ hx hb hml hown (fun w h => hts w (List.mem_cons_of_mem _ h)) (fun q h => Or.inr h) hK ⟨Nat.le_refl _, Nat.le_refl _⟩ _ _ _ hP hD va_S.rf (lo_start hc hl)
  · intro u pc lo hE hd hx2 hb2 hml2 hown2 hts2 hA2 hK2 hcs2 H locs ls hP1 hD1 hS1 hl1
    exact W.vret hx hb hr (fun t ht hW => ⟨⟨u, rfl, hE, by rw [ht]; exact hP1, va_K.moved hW.alike hK, hD1⟩, hS1.F ht⟩) hS1.2.2 hd
theorem gw_C {cw : Cond} (h : cw ∈ lw_gd) : GoodIn lw_gd (cw :: lw_gd) := by
  intro w hw
  have key : w ∈ lw_gd := (List.mem_cons.mp hw).elim (fun e => e ▸ h) id
  exact ⟨key, lw_good w key⟩
section VC
variable {p : Program} {l : Launch} {e : Env} {fr rc rs rl : Nat} {s : State} {m : MethodId} {args : Array Value} {below : List Frame} {meth : Method} {c : Code} {cells slots : Nat} {Q : State → Prop} {A : Nat → Prop} {cc : ByteArray} {nL : Nat} {own : String} {D : va_G} {cA : ClassId} {wf : Mem → va_W}
variable {pc q : Nat} {lo : List (Option Value)} {st0 rest : List Value} {μ : Mem} {y : MethodName} {bytes : ByteArray} {maxL idx cfr crl : Nat} {b : Addr} {As : List Value}
theorem v_free {H : Heap} {locs : List Loc} (hD : va_D A (wf μ)) (hS : va_S A s.heap H locs) (hA : ∀ q, s.heap.size ≤ q → A q) : ∀ q, va_A (wf μ) H.size q → A q := by
  intro q h
  rcases h with ⟨k, e, h⟩ | h
  · exact hD.2 k (q, e) h
  · exact hA q (Nat.le_trans hS.1 h)
theorem v_pre {H : Heap} {av : List Value} (hP : va_P D vwCl (wf μ) H) (hD : va_D A (wf μ)) (hK : va_K D vwCl [(cA, .int)] s) : ∀ U : State, U.heap = H → s.WarmedH U.vm → va_Pc av (sw_In D cA (wf μ) H.size) av.toArray U :=
  fun U hU hW => ⟨rfl, by rw [hU], by rw [hU]; exact hP, va_K.moved hW.alike hK, hD.weaken (fun _ _ _ _ => trivial)⟩
theorem v_callVI {E : Int32 → Mem → Prop} {ty : FieldType} (hM : ∀ sz, CtI l y (Cond.code y bytes maxL (some ty) :: lw_gd) cfr crl D cA (.ref b :: As) wf μ sz E) (h1 : (.methodLink own idx y : Cond) ∈ lw_gd) (h2 : (.instanceMethod y : Cond) ∈ lw_gd) (h3 : (.selects y.cls y y : Cond) ∈ lw_gd) (q0 : Nat) {ci : Nat} {r0 : vw_C} {fs : List Value} (he : (wf μ)[q0]? = some (b, .inr (ci, fs))) (hc0 : vwCl[ci]? = some r0) (hr0 : r0.1 = y.cls) (h5 : (.code y bytes maxL (some ty) : Cond) ∈ lw_gd) (h4 : (.initialized y.cls : Cond) ∈ lw_gd) (n : Nat) (hn : As.length = n) (hyd : y.cls ≠ "java/lang/invoke/MethodHandle" ∧ y.cls ≠ "java/lang/invoke/VarHandle" ∧ (parseMethodDescriptor y.desc).map (fun d => d.parameters.length) = some n) (hfr : cfr + 1 ≤ fr) (hrl : 8 + (maxL + 11) + crl ≤ rl) (hst : st0 = As.reverse ++ .ref b :: rest) (hrm : (rest.map fun v => v.category).sum ≤ 8) (hd : decode cc pc = .ok (.invokevirtual idx, 3)) (hq : pc + 3 = q) (k : ∀ (r : Int32) (u : Mem), E r u → VJ p l e fr rc rs rl s m args below meth c cells slots Q A cc nL own D cA wf q lo (.int r :: rest) u) : VJ p l e fr rc rs rl s m args below meth c cells slots Q A cc nL own D cA wf pc lo st0 μ := by
  subst hq
  subst hst
  intro hx hb hml hown hts hA hK hcs H locs ls hP hD hS hl
  have hF := v_free (wf := wf) (μ := μ) hD hS hA
  have M : ∀ {w : Cond}, w ∈ lw_gd → w.before args s = true := fun h => hts _ h
  refine va_calli (mc := 0) (ms := 0) (va_runV (bytes := bytes) (maxL := maxL) (As := As) (rest := rest) ⟨hx, hb, hml, hown, hts⟩ (hM H.size) ⟨callB_of n hts (gw_C h5) rfl rfl rfl (M h4) (M h1) hyd ⟨hfr, hrl⟩, M h2, M h3⟩ ⟨sw_blind, by have := va_recv hK hP hc0 he; rw [hr0] at this; exact this, v_pre hP hD hK⟩ rfl hn hl.1.1 rfl (lv_room hrm) hd ⟨hcs.1, hcs.2⟩) hS (fun q _ h => hF q h) hF (fun r u t H1 locs1 ht hvm hw hB hz1 hk1 hS1 => ?_)
  obtain ⟨g1, -, g3⟩ := hB
  rw [ht] at g1
  exact k r u hw hx hb hml hown hts hA hK hcs H1 locs1 ls g1 (g3.weaken (fun _ q _ h => hF q.1 h)) hS1 hl
theorem v_callSI {E : Int32 → Mem → Prop} {ty : FieldType} (hM : ∀ sz, CtI l y (Cond.code y bytes maxL (some ty) :: lw_gd) cfr crl D cA As wf μ sz E) (h1 : (.methodLink own idx y : Cond) ∈ lw_gd) (h2 : (.static y : Cond) ∈ lw_gd) (h5 : (.code y bytes maxL (some ty) : Cond) ∈ lw_gd) (h4 : (.initialized y.cls : Cond) ∈ lw_gd) (n : Nat) (hn : As.length = n) (hyd : y.cls ≠ "java/lang/invoke/MethodHandle" ∧ y.cls ≠ "java/lang/invoke/VarHandle" ∧ (parseMethodDescriptor y.desc).map (fun d => d.parameters.length) = some n) (hfr : cfr + 1 ≤ fr) (hrl : 8 + (maxL + 11) + crl ≤ rl) (hst : st0 = As.reverse ++ rest) (hrm : (rest.map fun v => v.category).sum ≤ 8) (hd : decode cc pc = .ok (.invokestatic idx, 3)) (hq : pc + 3 = q) (k : ∀ (r : Int32) (u : Mem), E r u → VJ p l e fr rc rs rl s m args below meth c cells slots Q A cc nL own D cA wf q lo (.int r :: rest) u) : VJ p l e fr rc rs rl s m args below meth c cells slots Q A cc nL own D cA wf pc lo st0 μ := by
  subst hq
  subst hst
  intro hx hb hml hown hts hA hK hcs H locs ls hP hD hS hl
  have hF := v_free (wf := wf) (μ := μ) hD hS hA
  have M : ∀ {w : Cond}, w ∈ lw_gd → w.before args s = true := fun h => hts _ h
  refine va_calli (mc := 0) (ms := 0) (va_runS (bytes := bytes) (maxL := maxL) (As := As) (rest := rest) ⟨hx, hb, hml, hown, hts⟩ (hM H.size) ⟨callB_of n hts (gw_C h5) rfl rfl rfl (M h4) (M h1) hyd ⟨hfr, hrl⟩, M h2⟩ ⟨sw_blind, v_pre hP hD hK⟩ rfl hn hl.1.1 rfl (lv_room hrm) hd ⟨hcs.1, hcs.2⟩) hS (fun q _ h => hF q h) hF (fun r u t H1 locs1 ht hvm hw hB hz1 hk1 hS1 => ?_)
  obtain ⟨g1, -, g3⟩ := hB
  rw [ht] at g1
  exact k r u hw hx hb hml hown hts hA hK hcs H1 locs1 ls g1 (g3.weaken (fun _ q _ h => hF q.1 h)) hS1 hl
theorem v_callVV {E : Mem → Prop}  (hM : ∀ sz, CtV l y (Cond.code y bytes maxL none :: lw_gd) cfr crl D cA (.ref b :: As) wf μ sz E) (h1 : (.methodLink own idx y : Cond) ∈ lw_gd) (h2 : (.instanceMethod y : Cond) ∈ lw_gd) (h3 : (.selects y.cls y y : Cond) ∈ lw_gd) (q0 : Nat) {ci : Nat} {r0 : vw_C} {fs : List Value} (he : (wf μ)[q0]? = some (b, .inr (ci, fs))) (hc0 : vwCl[ci]? = some r0) (hr0 : r0.1 = y.cls) (h5 : (.code y bytes maxL none : Cond) ∈ lw_gd) (h4 : (.initialized y.cls : Cond) ∈ lw_gd) (n : Nat) (hn : As.length = n) (hyd : y.cls ≠ "java/lang/invoke/MethodHandle" ∧ y.cls ≠ "java/lang/invoke/VarHandle" ∧ (parseMethodDescriptor y.desc).map (fun d => d.parameters.length) = some n) (hfr : cfr + 1 ≤ fr) (hrl : 8 + (maxL + 11) + crl ≤ rl) (hst : st0 = As.reverse ++ .ref b :: rest) (hrm : (rest.map fun v => v.category).sum ≤ 8) (hd : decode cc pc = .ok (.invokevirtual idx, 3)) (hq : pc + 3 = q) (k : ∀ (u : Mem), E u → VJ p l e fr rc rs rl s m args below meth c cells slots Q A cc nL own D cA wf q lo rest u) : VJ p l e fr rc rs rl s m args below meth c cells slots Q A cc nL own D cA wf pc lo st0 μ := by
  subst hq
  subst hst
  intro hx hb hml hown hts hA hK hcs H locs ls hP hD hS hl
  have hF := v_free (wf := wf) (μ := μ) hD hS hA
  have M : ∀ {w : Cond}, w ∈ lw_gd → w.before args s = true := fun h => hts _ h
  refine va_callv (mc := 0) (ms := 0) (va_runV (bytes := bytes) (maxL := maxL) (As := As) (rest := rest) ⟨hx, hb, hml, hown, hts⟩ (hM H.size) ⟨callB_of n hts (gw_C h5) rfl rfl rfl (M h4) (M h1) hyd ⟨hfr, hrl⟩, M h2, M h3⟩ ⟨sw_blind, by have := va_recv hK hP hc0 he; rw [hr0] at this; exact this, v_pre hP hD hK⟩ rfl hn hl.1.1 rfl (lv_room hrm) hd ⟨hcs.1, hcs.2⟩) hS (fun q _ h => hF q h) hF (fun u t H1 locs1 ht hvm hw hB hz1 hk1 hS1 => ?_)
  obtain ⟨g1, -, g3⟩ := hB
  rw [ht] at g1
  exact k u hw hx hb hml hown hts hA hK hcs H1 locs1 ls g1 (g3.weaken (fun _ q _ h => hF q.1 h)) hS1 hl
end VC
