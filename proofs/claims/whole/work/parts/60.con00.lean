/-! Contracts. -/
theorem d_Sh_isNode_0 : decode b_Sh_isNode 0 = .ok (.iload_n 0, 1) := by decide +kernel
theorem d_Sh_isNode_1 : decode b_Sh_isNode 1 = .ok (.ifCond .lt 12, 3) := by decide +kernel
theorem d_Sh_isNode_4 : decode b_Sh_isNode 4 = .ok (.iload_n 0, 1) := by decide +kernel
theorem d_Sh_isNode_5 : decode b_Sh_isNode 5 = .ok (.iconst 3, 1) := by decide +kernel
theorem d_Sh_isNode_6 : decode b_Sh_isNode 6 = .ok (.if_icmp .ge 7, 3) := by decide +kernel
theorem d_Sh_isNode_9 : decode b_Sh_isNode 9 = .ok (.iconst 1, 1) := by decide +kernel
theorem d_Sh_isNode_10 : decode b_Sh_isNode 10 = .ok (.goto 4, 3) := by decide +kernel
theorem d_Sh_isNode_13 : decode b_Sh_isNode 13 = .ok (.iconst 0, 1) := by decide +kernel
theorem d_Sh_isNode_14 : decode b_Sh_isNode 14 = .ok (.ireturn, 1) := by decide +kernel
set_option maxHeartbeats 4000000 in
set_option maxRecDepth 100000 in
theorem c_Sh_isNode (l : Launch) (dC : Nat → ClassId) (dI : Nat → Nat → Nat) (ad : Nat → Nat) (cA : ClassId) (sz : Nat) (N : Nat) (a0 : Int32) (u : Mem) (r : Int32) (w : Mem) (h : f_Sh_isNode N a0 u = some (r, w)) : CtI l y_Sh_isNode (Cond.code y_Sh_isNode b_Sh_isNode 1 (some .boolean) :: lw_gd) 0 0 (dC, dI) cA [.int a0] (wA ad cA) u sz (fun v w1 => v = r ∧ w1 = w ∧ (v = 0 ∨ v = 1)) := by
  refine v_metI (own := R_Sh) [some (.int a0)] rfl (by decide) (Nat.le_of_ble_eq_true rfl) rfl rfl (fun v u h => by rcases h.2.2 with h | h <;> rw [h] <;> rfl) ?_
  intro p e s m args below meth c A Q ret
  unfold f_Sh_isNode at h
  refine v_iload_n d_Sh_isNode_0 rfl rfl ?_
  refine v_if_lt 13 d_Sh_isNode_1 (by decide) rfl (fun c2 => ?_) (fun c2 => ?_)
  · replace h := (if_pos c2).symm.trans h
    refine v_iconst 0 d_Sh_isNode_13 (by decide) rfl ?_
    obtain ⟨e1, e2⟩ := rt_inv h
    exact ret _ _ _ _ ⟨e1, e2, Or.inl rfl⟩ d_Sh_isNode_14
  · replace h := (if_neg c2).symm.trans h
    refine v_iload_n d_Sh_isNode_4 rfl rfl ?_
    refine v_iconst 3 d_Sh_isNode_5 (by decide) rfl ?_
    refine v_icmp_ge 13 d_Sh_isNode_6 (by decide) rfl (fun c1 => ?_) (fun c1 => ?_)
    · replace h := (if_pos c1).symm.trans h
      refine v_iconst 0 d_Sh_isNode_13 (by decide) rfl ?_
      obtain ⟨e1, e2⟩ := rt_inv h
      exact ret _ _ _ _ ⟨e1, e2, Or.inl rfl⟩ d_Sh_isNode_14
    · replace h := (if_neg c1).symm.trans h
      refine v_iconst 1 d_Sh_isNode_9 (by decide) rfl ?_
      refine v_goto 14 d_Sh_isNode_10 (by decide) ?_
      obtain ⟨e1, e2⟩ := rt_inv h
      exact ret _ _ _ _ ⟨e1, e2, Or.inr rfl⟩ d_Sh_isNode_14
theorem vc_Sh_Sh_isNode {p : Program} {l : Launch} {e : Env} {fr rc rs rl : Nat} {s : State} {m : MethodId} {args : Array Value} {below : List Frame} {meth : Method} {c : Code} {cells slots : Nat} {Q : State → Prop} {A : Nat → Prop} {cc : ByteArray} {nL : Nat} {dC : Nat → ClassId} {dI : Nat → Nat → Nat} {cA : ClassId} {ad : Nat → Nat} {pc q : Nat} {lo : List (Option Value)} {rest : List Value} {u w : Mem} {r : Int32} {N : Nat} {b0 : Int32} (h : f_Sh_isNode N b0 u = some (r, w)) (hfr : 0 + 1 ≤ fr) (hrl : 8 + (1 + 11) + 0 ≤ rl) (hrm : (rest.map fun v => v.category).sum ≤ 8) (hd : decode cc pc = .ok (.invokestatic 48, 3)) (hq : pc + 3 = q) (k : VJ p l e fr rc rs rl s m args below meth c cells slots Q A cc nL R_Sh (dC, dI) cA (wA ad cA) q lo (.int r :: rest) w) : VJ p l e fr rc rs rl s m args below meth c cells slots Q A cc nL R_Sh (dC, dI) cA (wA ad cA) pc lo (.int b0 ::  rest) u :=
  v_callSI (As := [.int b0]) (rest := rest) (fun sz => c_Sh_isNode l dC dI ad cA sz N b0 u r w h) tw_126 tw_127 tw_128 tw_24 1 rfl (by decide +kernel) hfr hrl rfl hrm hd hq (fun v w1 hE => by obtain ⟨rfl, rfl, -⟩ := hE; exact k)
theorem d_Sh_isRoot_0 : decode b_Sh_isRoot 0 = .ok (.iload_n 0, 1) := by decide +kernel
theorem d_Sh_isRoot_1 : decode b_Sh_isRoot 1 = .ok (.invokestatic 48, 3) := by decide +kernel
theorem d_Sh_isRoot_4 : decode b_Sh_isRoot 4 = .ok (.ifCond .eq 16, 3) := by decide +kernel
theorem d_Sh_isRoot_7 : decode b_Sh_isRoot 7 = .ok (.iload_n 1, 1) := by decide +kernel
theorem d_Sh_isRoot_8 : decode b_Sh_isRoot 8 = .ok (.ifCond .lt 12, 3) := by decide +kernel
theorem d_Sh_isRoot_11 : decode b_Sh_isRoot 11 = .ok (.iload_n 1, 1) := by decide +kernel
theorem d_Sh_isRoot_12 : decode b_Sh_isRoot 12 = .ok (.iconst 3, 1) := by decide +kernel
theorem d_Sh_isRoot_13 : decode b_Sh_isRoot 13 = .ok (.if_icmp .ge 7, 3) := by decide +kernel
theorem d_Sh_isRoot_16 : decode b_Sh_isRoot 16 = .ok (.iconst 1, 1) := by decide +kernel
theorem d_Sh_isRoot_17 : decode b_Sh_isRoot 17 = .ok (.goto 4, 3) := by decide +kernel
theorem d_Sh_isRoot_20 : decode b_Sh_isRoot 20 = .ok (.iconst 0, 1) := by decide +kernel
theorem d_Sh_isRoot_21 : decode b_Sh_isRoot 21 = .ok (.ireturn, 1) := by decide +kernel
set_option maxHeartbeats 4000000 in
set_option maxRecDepth 100000 in
theorem c_Sh_isRoot (l : Launch) (dC : Nat → ClassId) (dI : Nat → Nat → Nat) (ad : Nat → Nat) (cA : ClassId) (sz : Nat) (N : Nat) (a0 a1 : Int32) (u : Mem) (r : Int32) (w : Mem) (h : f_Sh_isRoot N a0 a1 u = some (r, w)) : CtI l y_Sh_isRoot (Cond.code y_Sh_isRoot b_Sh_isRoot 2 (some .boolean) :: lw_gd) 1 20 (dC, dI) cA [.int a0, .int a1] (wA ad cA) u sz (fun v w1 => v = r ∧ w1 = w ∧ (v = 0 ∨ v = 1)) := by
  refine v_metI (own := R_Sh) [some (.int a0), some (.int a1)] rfl (by decide) (Nat.le_of_ble_eq_true rfl) rfl rfl (fun v u h => by rcases h.2.2 with h | h <;> rw [h] <;> rfl) ?_
  intro p e s m args below meth c A Q ret
  unfold f_Sh_isRoot at h
  refine v_iload_n d_Sh_isRoot_0 rfl rfl ?_
  obtain ⟨y1, u2, hc3, h⟩ := bd_inv h
  refine vc_Sh_Sh_isNode hc3 (Nat.le_of_ble_eq_true rfl) (Nat.le_of_ble_eq_true rfl) (Nat.le_of_ble_eq_true rfl) d_Sh_isRoot_1 rfl ?_
  refine v_if_eq 20 d_Sh_isRoot_4 (by decide) rfl (fun c6 => ?_) (fun c6 => ?_)
  · replace h := (if_pos c6).symm.trans h
    refine v_iconst 0 d_Sh_isRoot_20 (by decide) rfl ?_
    obtain ⟨e1, e2⟩ := rt_inv h
    exact ret _ _ _ _ ⟨e1, e2, Or.inl rfl⟩ d_Sh_isRoot_21
  · replace h := (if_neg c6).symm.trans h
    refine v_iload_n d_Sh_isRoot_7 rfl rfl ?_
    refine v_if_lt 20 d_Sh_isRoot_8 (by decide) rfl (fun c5 => ?_) (fun c5 => ?_)
    · replace h := (if_pos c5).symm.trans h
      refine v_iconst 0 d_Sh_isRoot_20 (by decide) rfl ?_
      obtain ⟨e1, e2⟩ := rt_inv h
      exact ret _ _ _ _ ⟨e1, e2, Or.inl rfl⟩ d_Sh_isRoot_21
    · replace h := (if_neg c5).symm.trans h
      refine v_iload_n d_Sh_isRoot_11 rfl rfl ?_
      refine v_iconst 3 d_Sh_isRoot_12 (by decide) rfl ?_
      refine v_icmp_ge 20 d_Sh_isRoot_13 (by decide) rfl (fun c4 => ?_) (fun c4 => ?_)
      · replace h := (if_pos c4).symm.trans h
        refine v_iconst 0 d_Sh_isRoot_20 (by decide) rfl ?_
        obtain ⟨e1, e2⟩ := rt_inv h
        exact ret _ _ _ _ ⟨e1, e2, Or.inl rfl⟩ d_Sh_isRoot_21
      · replace h := (if_neg c4).symm.trans h
        refine v_iconst 1 d_Sh_isRoot_16 (by decide) rfl ?_
        refine v_goto 21 d_Sh_isRoot_17 (by decide) ?_
        obtain ⟨e1, e2⟩ := rt_inv h
        exact ret _ _ _ _ ⟨e1, e2, Or.inr rfl⟩ d_Sh_isRoot_21
theorem vc_Sh_Sh_isRoot {p : Program} {l : Launch} {e : Env} {fr rc rs rl : Nat} {s : State} {m : MethodId} {args : Array Value} {below : List Frame} {meth : Method} {c : Code} {cells slots : Nat} {Q : State → Prop} {A : Nat → Prop} {cc : ByteArray} {nL : Nat} {dC : Nat → ClassId} {dI : Nat → Nat → Nat} {cA : ClassId} {ad : Nat → Nat} {pc q : Nat} {lo : List (Option Value)} {rest : List Value} {u w : Mem} {r : Int32} {N : Nat} {b0 b1 : Int32} (h : f_Sh_isRoot N b0 b1 u = some (r, w)) (hfr : 1 + 1 ≤ fr) (hrl : 8 + (2 + 11) + 20 ≤ rl) (hrm : (rest.map fun v => v.category).sum ≤ 8) (hd : decode cc pc = .ok (.invokestatic 44, 3)) (hq : pc + 3 = q) (k : VJ p l e fr rc rs rl s m args below meth c cells slots Q A cc nL R_Sh (dC, dI) cA (wA ad cA) q lo (.int r :: rest) w) : VJ p l e fr rc rs rl s m args below meth c cells slots Q A cc nL R_Sh (dC, dI) cA (wA ad cA) pc lo (.int b1 :: .int b0 ::  rest) u :=
  v_callSI (As := [.int b0, .int b1]) (rest := rest) (fun sz => c_Sh_isRoot l dC dI ad cA sz N b0 b1 u r w h) tw_123 tw_124 tw_125 tw_24 2 rfl (by decide +kernel) hfr hrl rfl hrm hd hq (fun v w1 hE => by obtain ⟨rfl, rfl, -⟩ := hE; exact k)
theorem d_Hp_isTaken_0 : decode b_Hp_isTaken 0 = .ok (.aload_n 0, 1) := by decide +kernel
theorem d_Hp_isTaken_1 : decode b_Hp_isTaken 1 = .ok (.getfield 9, 3) := by decide +kernel
theorem d_Hp_isTaken_4 : decode b_Hp_isTaken 4 = .ok (.iload_n 1, 1) := by decide +kernel
theorem d_Hp_isTaken_5 : decode b_Hp_isTaken 5 = .ok (.iaload, 1) := by decide +kernel
theorem d_Hp_isTaken_6 : decode b_Hp_isTaken 6 = .ok (.ifCond .eq 7, 3) := by decide +kernel
theorem d_Hp_isTaken_9 : decode b_Hp_isTaken 9 = .ok (.iconst 1, 1) := by decide +kernel
theorem d_Hp_isTaken_10 : decode b_Hp_isTaken 10 = .ok (.goto 4, 3) := by decide +kernel
theorem d_Hp_isTaken_13 : decode b_Hp_isTaken 13 = .ok (.iconst 0, 1) := by decide +kernel
theorem d_Hp_isTaken_14 : decode b_Hp_isTaken 14 = .ok (.ireturn, 1) := by decide +kernel
set_option maxHeartbeats 4000000 in
set_option maxRecDepth 100000 in
theorem c_Hp_isTaken (l : Launch) (dC : Nat → ClassId) (dI : Nat → Nat → Nat) (ad : Nat → Nat) (cA : ClassId) (sz : Nat) (N : Nat) (a1 : Int32) (u : Mem) (r : Int32) (w : Mem) (h : f_Hp_isTaken N a1 u = some (r, w)) : CtI l y_Hp_isTaken (Cond.code y_Hp_isTaken b_Hp_isTaken 2 (some .boolean) :: lw_gd) 0 0 (dC, dI) cA [.ref (ad 2), .int a1] (wA ad cA) u sz (fun v w1 => v = r ∧ w1 = w ∧ (v = 0 ∨ v = 1)) := by
  refine v_metI (own := R_Hp) [some (.ref (ad 2)), some (.int a1)] rfl (by decide) (Nat.le_of_ble_eq_true rfl) rfl rfl (fun v u h => by rcases h.2.2 with h | h <;> rw [h] <;> rfl) ?_
  intro p e s m args below meth c A Q ret
  unfold f_Hp_isTaken at h
  refine v_aload_n d_Hp_isTaken_0 rfl rfl ?_
  refine vg_Hp_numbers d_Hp_isTaken_1 rfl ?_
  refine v_iload_n d_Hp_isTaken_4 rfl rfl ?_
  obtain ⟨g1, h⟩ := gd_inv h
  refine v_ald 3 (wA_3 ad cA _) d_Hp_isTaken_5 g1 rfl ?_
  refine v_if_eq 13 d_Hp_isTaken_6 (by decide) rfl (fun c2 => ?_) (fun c2 => ?_)
  · replace h := (if_pos c2).symm.trans h
    refine v_iconst 0 d_Hp_isTaken_13 (by decide) rfl ?_
    obtain ⟨e1, e2⟩ := rt_inv h
    exact ret _ _ _ _ ⟨e1, e2, Or.inl rfl⟩ d_Hp_isTaken_14
  · replace h := (if_neg c2).symm.trans h
    refine v_iconst 1 d_Hp_isTaken_9 (by decide) rfl ?_
    refine v_goto 14 d_Hp_isTaken_10 (by decide) ?_
    obtain ⟨e1, e2⟩ := rt_inv h
    exact ret _ _ _ _ ⟨e1, e2, Or.inr rfl⟩ d_Hp_isTaken_14
theorem vc_Sh_Hp_isTaken {p : Program} {l : Launch} {e : Env} {fr rc rs rl : Nat} {s : State} {m : MethodId} {args : Array Value} {below : List Frame} {meth : Method} {c : Code} {cells slots : Nat} {Q : State → Prop} {A : Nat → Prop} {cc : ByteArray} {nL : Nat} {dC : Nat → ClassId} {dI : Nat → Nat → Nat} {cA : ClassId} {ad : Nat → Nat} {pc q : Nat} {lo : List (Option Value)} {rest : List Value} {u w : Mem} {r : Int32} {N : Nat} {b0 : Int32} (h : f_Hp_isTaken N b0 u = some (r, w)) (hfr : 0 + 1 ≤ fr) (hrl : 8 + (2 + 11) + 0 ≤ rl) (hrm : (rest.map fun v => v.category).sum ≤ 8) (hd : decode cc pc = .ok (.invokevirtual 157, 3)) (hq : pc + 3 = q) (k : VJ p l e fr rc rs rl s m args below meth c cells slots Q A cc nL R_Sh (dC, dI) cA (wA ad cA) q lo (.int r :: rest) w) : VJ p l e fr rc rs rl s m args below meth c cells slots Q A cc nL R_Sh (dC, dI) cA (wA ad cA) pc lo (.int b0 :: .ref (ad 2) :: rest) u :=
  v_callVI (As := [.int b0]) (rest := rest) (fun sz => c_Hp_isTaken l dC dI ad cA sz N b0 u r w h) tw_230 tw_134 tw_135 2 (wA_2 ad cA u) rfl rfl tw_136 tw_25 1 rfl (by decide +kernel) hfr hrl rfl hrm hd hq (fun v w1 hE => by obtain ⟨rfl, rfl, -⟩ := hE; exact k)
theorem vc_Hp_Hp_isTaken {p : Program} {l : Launch} {e : Env} {fr rc rs rl : Nat} {s : State} {m : MethodId} {args : Array Value} {below : List Frame} {meth : Method} {c : Code} {cells slots : Nat} {Q : State → Prop} {A : Nat → Prop} {cc : ByteArray} {nL : Nat} {dC : Nat → ClassId} {dI : Nat → Nat → Nat} {cA : ClassId} {ad : Nat → Nat} {pc q : Nat} {lo : List (Option Value)} {rest : List Value} {u w : Mem} {r : Int32} {N : Nat} {b0 : Int32} (h : f_Hp_isTaken N b0 u = some (r, w)) (hfr : 0 + 1 ≤ fr) (hrl : 8 + (2 + 11) + 0 ≤ rl) (hrm : (rest.map fun v => v.category).sum ≤ 8) (hd : decode cc pc = .ok (.invokevirtual 21, 3)) (hq : pc + 3 = q) (k : VJ p l e fr rc rs rl s m args below meth c cells slots Q A cc nL R_Hp (dC, dI) cA (wA ad cA) q lo (.int r :: rest) w) : VJ p l e fr rc rs rl s m args below meth c cells slots Q A cc nL R_Hp (dC, dI) cA (wA ad cA) pc lo (.int b0 :: .ref (ad 2) :: rest) u :=
  v_callVI (As := [.int b0]) (rest := rest) (fun sz => c_Hp_isTaken l dC dI ad cA sz N b0 u r w h) tw_133 tw_134 tw_135 2 (wA_2 ad cA u) rfl rfl tw_136 tw_25 1 rfl (by decide +kernel) hfr hrl rfl hrm hd hq (fun v w1 hE => by obtain ⟨rfl, rfl, -⟩ := hE; exact k)
theorem d_Hp_countOn_0 : decode b_Hp_countOn 0 = .ok (.iconst 0, 1) := by decide +kernel
theorem d_Hp_countOn_1 : decode b_Hp_countOn 1 = .ok (.istore_n 2, 1) := by decide +kernel
theorem d_Hp_countOn_2 : decode b_Hp_countOn 2 = .ok (.iload_n 1, 1) := by decide +kernel
theorem d_Hp_countOn_3 : decode b_Hp_countOn 3 = .ok (.bipush 8, 2) := by decide +kernel
theorem d_Hp_countOn_5 : decode b_Hp_countOn 5 = .ok (.imul, 1) := by decide +kernel
theorem d_Hp_countOn_6 : decode b_Hp_countOn 6 = .ok (.istore_n 3, 1) := by decide +kernel
theorem d_Hp_countOn_7 : decode b_Hp_countOn 7 = .ok (.iload_n 3, 1) := by decide +kernel
theorem d_Hp_countOn_8 : decode b_Hp_countOn 8 = .ok (.iload_n 1, 1) := by decide +kernel
theorem d_Hp_countOn_9 : decode b_Hp_countOn 9 = .ok (.iconst 1, 1) := by decide +kernel
theorem d_Hp_countOn_10 : decode b_Hp_countOn 10 = .ok (.iadd, 1) := by decide +kernel
theorem d_Hp_countOn_11 : decode b_Hp_countOn 11 = .ok (.bipush 8, 2) := by decide +kernel
theorem d_Hp_countOn_13 : decode b_Hp_countOn 13 = .ok (.imul, 1) := by decide +kernel
theorem d_Hp_countOn_14 : decode b_Hp_countOn 14 = .ok (.if_icmp .ge 20, 3) := by decide +kernel
theorem d_Hp_countOn_17 : decode b_Hp_countOn 17 = .ok (.aload_n 0, 1) := by decide +kernel
theorem d_Hp_countOn_18 : decode b_Hp_countOn 18 = .ok (.iload_n 3, 1) := by decide +kernel
theorem d_Hp_countOn_19 : decode b_Hp_countOn 19 = .ok (.invokevirtual 21, 3) := by decide +kernel
theorem d_Hp_countOn_22 : decode b_Hp_countOn 22 = .ok (.ifCond .eq 6, 3) := by decide +kernel
theorem d_Hp_countOn_25 : decode b_Hp_countOn 25 = .ok (.iinc 2 1, 3) := by decide +kernel
theorem d_Hp_countOn_28 : decode b_Hp_countOn 28 = .ok (.iinc 3 1, 3) := by decide +kernel
theorem d_Hp_countOn_31 : decode b_Hp_countOn 31 = .ok (.goto (-24), 3) := by decide +kernel
theorem d_Hp_countOn_34 : decode b_Hp_countOn 34 = .ok (.iload_n 2, 1) := by decide +kernel
theorem d_Hp_countOn_35 : decode b_Hp_countOn 35 = .ok (.ireturn, 1) := by decide +kernel
set_option maxHeartbeats 4000000 in
set_option maxRecDepth 100000 in
theorem c_Hp_countOn (l : Launch) (dC : Nat → ClassId) (dI : Nat → Nat → Nat) (ad : Nat → Nat) (cA : ClassId) (sz : Nat) (N : Nat) (a1 : Int32) (u : Mem) (r : Int32) (w : Mem) (h : f_Hp_countOn N a1 u = some (r, w)) : CtI l y_Hp_countOn (Cond.code y_Hp_countOn b_Hp_countOn 4 (some .int) :: lw_gd) 1 21 (dC, dI) cA [.ref (ad 2), .int a1] (wA ad cA) u sz (fun v w1 => v = r ∧ w1 = w) := by
  refine v_metI (own := R_Hp) [some (.ref (ad 2)), some (.int a1), none, none] rfl (by decide) (Nat.le_of_ble_eq_true rfl) rfl rfl (fun v u h => rfl) ?_
  intro p e s m args below meth c A Q ret
  unfold f_Hp_countOn at h
  refine v_iconst 0 d_Hp_countOn_0 (by decide) rfl ?_
  refine v_istore_n (lo' := [_, _, _, none]) d_Hp_countOn_1 rfl (by decide) rfl ?_
  refine v_iload_n d_Hp_countOn_2 rfl rfl ?_
  refine v_bipush 8 d_Hp_countOn_3 (by decide) rfl ?_
  refine v_imul d_Hp_countOn_5 rfl ?_
  refine v_istore_n (lo' := [_, _, _, _]) d_Hp_countOn_6 rfl (by decide) rfl ?_
  have L7 : ∀ (κ : Int32 → Mem → Rs), (∀ (x10 : Int32) (u11 : Mem), κ x10 u11 = some (r, w) → VJ p l e 1 0 0 21 s m args below meth c 0 0 Q A b_Hp_countOn 4 R_Hp (dC, dI) cA (wA ad cA) 34 [none, none, some (.int x10), none] [] u11) → ∀ (n : Nat) (x1 x2 x3 : Int32) (u4 : Mem), k_Hp_countOn_7 N κ n x1 x2 x3 u4 = some (r, w) → VJ p l e 1 0 0 21 s m args below meth c 0 0 Q A b_Hp_countOn 4 R_Hp (dC, dI) cA (wA ad cA) 7 [some (.ref (ad 2)), some (.int x1), some (.int x2), some (.int x3)] [] u4 := by
    intro κ hκ n
    induction n with
    | zero =>
      intro x1 x2 x3 u4 h
      exact no_ns h
    | succ n ih =>
      intro x1 x2 x3 u4 h
      unfold k_Hp_countOn_7 at h
      refine v_iload_n d_Hp_countOn_7 rfl rfl ?_
      refine v_iload_n d_Hp_countOn_8 rfl rfl ?_
      refine v_iconst 1 d_Hp_countOn_9 (by decide) rfl ?_
      refine v_iadd d_Hp_countOn_10 rfl ?_
      refine v_bipush 8 d_Hp_countOn_11 (by decide) rfl ?_
      refine v_imul d_Hp_countOn_13 rfl ?_
      refine v_icmp_ge 34 d_Hp_countOn_14 (by decide) rfl (fun c9 => ?_) (fun c9 => ?_)
      · replace h := (if_pos c9).symm.trans h
        refine v_drop 0 (lo' := [none, _, _, _]) rfl ?_
        refine v_drop 1 (lo' := [none, none, _, _]) rfl ?_
        refine v_drop 3 (lo' := [none, none, _, none]) rfl ?_
        exact hκ _ _ h
      · replace h := (if_neg c9).symm.trans h
        refine v_aload_n d_Hp_countOn_17 rfl rfl ?_
        refine v_iload_n d_Hp_countOn_18 rfl rfl ?_
        obtain ⟨y5, u6, hc7, h⟩ := bd_inv h
        refine vc_Hp_Hp_isTaken hc7 (Nat.le_of_ble_eq_true rfl) (Nat.le_of_ble_eq_true rfl) (Nat.le_of_ble_eq_true rfl) d_Hp_countOn_19 rfl ?_
        refine v_if_eq 28 d_Hp_countOn_22 (by decide) rfl (fun c8 => ?_) (fun c8 => ?_)
        · replace h := (if_pos c8).symm.trans h
          refine v_iinc (lo' := [_, _, _, _]) 1 d_Hp_countOn_28 (by decide) rfl rfl (by decide) rfl ?_
          refine v_goto 7 d_Hp_countOn_31 (by decide) ?_
          exact ih _ _ _ _ h
        · replace h := (if_neg c8).symm.trans h
          refine v_iinc (lo' := [_, _, _, _]) 1 d_Hp_countOn_25 (by decide) rfl rfl (by decide) rfl ?_
          refine v_iinc (lo' := [_, _, _, _]) 1 d_Hp_countOn_28 (by decide) rfl rfl (by decide) rfl ?_
          refine v_goto 7 d_Hp_countOn_31 (by decide) ?_
          exact ih _ _ _ _ h
  refine L7 _ (fun x10 u11 h => ?_) N _ _ _ _ h
  refine v_iload_n d_Hp_countOn_34 rfl rfl ?_
  obtain ⟨e1, e2⟩ := rt_inv h
  exact ret _ _ _ _ ⟨e1, e2⟩ d_Hp_countOn_35
theorem vc_Sh_Hp_countOn {p : Program} {l : Launch} {e : Env} {fr rc rs rl : Nat} {s : State} {m : MethodId} {args : Array Value} {below : List Frame} {meth : Method} {c : Code} {cells slots : Nat} {Q : State → Prop} {A : Nat → Prop} {cc : ByteArray} {nL : Nat} {dC : Nat → ClassId} {dI : Nat → Nat → Nat} {cA : ClassId} {ad : Nat → Nat} {pc q : Nat} {lo : List (Option Value)} {rest : List Value} {u w : Mem} {r : Int32} {N : Nat} {b0 : Int32} (h : f_Hp_countOn N b0 u = some (r, w)) (hfr : 1 + 1 ≤ fr) (hrl : 8 + (4 + 11) + 21 ≤ rl) (hrm : (rest.map fun v => v.category).sum ≤ 8) (hd : decode cc pc = .ok (.invokevirtual 52, 3)) (hq : pc + 3 = q) (k : VJ p l e fr rc rs rl s m args below meth c cells slots Q A cc nL R_Sh (dC, dI) cA (wA ad cA) q lo (.int r :: rest) w) : VJ p l e fr rc rs rl s m args below meth c cells slots Q A cc nL R_Sh (dC, dI) cA (wA ad cA) pc lo (.int b0 :: .ref (ad 2) :: rest) u :=
  v_callVI (As := [.int b0]) (rest := rest) (fun sz => c_Hp_countOn l dC dI ad cA sz N b0 u r w h) tw_129 tw_130 tw_131 2 (wA_2 ad cA u) rfl rfl tw_132 tw_25 1 rfl (by decide +kernel) hfr hrl rfl hrm hd hq (fun v w1 hE => by obtain ⟨rfl, rfl⟩ := hE; exact k)
theorem d_Hp_add_0 : decode b_Hp_add 0 = .ok (.iload_n 1, 1) := by decide +kernel
theorem d_Hp_add_1 : decode b_Hp_add 1 = .ok (.bipush 8, 2) := by decide +kernel
theorem d_Hp_add_3 : decode b_Hp_add 3 = .ok (.imul, 1) := by decide +kernel
theorem d_Hp_add_4 : decode b_Hp_add 4 = .ok (.istore_n 2, 1) := by decide +kernel
theorem d_Hp_add_5 : decode b_Hp_add 5 = .ok (.iload_n 2, 1) := by decide +kernel
theorem d_Hp_add_6 : decode b_Hp_add 6 = .ok (.iload_n 1, 1) := by decide +kernel
theorem d_Hp_add_7 : decode b_Hp_add 7 = .ok (.iconst 1, 1) := by decide +kernel
theorem d_Hp_add_8 : decode b_Hp_add 8 = .ok (.iadd, 1) := by decide +kernel
theorem d_Hp_add_9 : decode b_Hp_add 9 = .ok (.bipush 8, 2) := by decide +kernel
theorem d_Hp_add_11 : decode b_Hp_add 11 = .ok (.imul, 1) := by decide +kernel
theorem d_Hp_add_12 : decode b_Hp_add 12 = .ok (.if_icmp .ge 42, 3) := by decide +kernel
theorem d_Hp_add_15 : decode b_Hp_add 15 = .ok (.aload_n 0, 1) := by decide +kernel
theorem d_Hp_add_16 : decode b_Hp_add 16 = .ok (.iload_n 2, 1) := by decide +kernel
theorem d_Hp_add_17 : decode b_Hp_add 17 = .ok (.invokevirtual 21, 3) := by decide +kernel
theorem d_Hp_add_20 : decode b_Hp_add 20 = .ok (.ifCond .ne 28, 3) := by decide +kernel
theorem d_Hp_add_23 : decode b_Hp_add 23 = .ok (.aload_n 0, 1) := by decide +kernel
theorem d_Hp_add_24 : decode b_Hp_add 24 = .ok (.dup, 1) := by decide +kernel
theorem d_Hp_add_25 : decode b_Hp_add 25 = .ok (.getfield 25, 3) := by decide +kernel
theorem d_Hp_add_28 : decode b_Hp_add 28 = .ok (.iconst 1, 1) := by decide +kernel
theorem d_Hp_add_29 : decode b_Hp_add 29 = .ok (.iadd, 1) := by decide +kernel
theorem d_Hp_add_30 : decode b_Hp_add 30 = .ok (.putfield 25, 3) := by decide +kernel
theorem d_Hp_add_33 : decode b_Hp_add 33 = .ok (.aload_n 0, 1) := by decide +kernel
theorem d_Hp_add_34 : decode b_Hp_add 34 = .ok (.getfield 9, 3) := by decide +kernel
theorem d_Hp_add_37 : decode b_Hp_add 37 = .ok (.iload_n 2, 1) := by decide +kernel
theorem d_Hp_add_38 : decode b_Hp_add 38 = .ok (.aload_n 0, 1) := by decide +kernel
theorem d_Hp_add_39 : decode b_Hp_add 39 = .ok (.getfield 25, 3) := by decide +kernel
theorem d_Hp_add_42 : decode b_Hp_add 42 = .ok (.iastore, 1) := by decide +kernel
theorem d_Hp_add_43 : decode b_Hp_add 43 = .ok (.aload_n 0, 1) := by decide +kernel
theorem d_Hp_add_44 : decode b_Hp_add 44 = .ok (.getfield 25, 3) := by decide +kernel
theorem d_Hp_add_47 : decode b_Hp_add 47 = .ok (.ireturn, 1) := by decide +kernel
theorem d_Hp_add_48 : decode b_Hp_add 48 = .ok (.iinc 2 1, 3) := by decide +kernel
theorem d_Hp_add_51 : decode b_Hp_add 51 = .ok (.goto (-46), 3) := by decide +kernel
theorem d_Hp_add_54 : decode b_Hp_add 54 = .ok (.iconst (-1), 1) := by decide +kernel
theorem d_Hp_add_55 : decode b_Hp_add 55 = .ok (.ireturn, 1) := by decide +kernel
set_option maxHeartbeats 4000000 in
set_option maxRecDepth 100000 in
theorem c_Hp_add (l : Launch) (dC : Nat → ClassId) (dI : Nat → Nat → Nat) (ad : Nat → Nat) (cA : ClassId) (sz : Nat) (N : Nat) (a1 : Int32) (u : Mem) (r : Int32) (w : Mem) (h : f_Hp_add N a1 u = some (r, w)) : CtI l y_Hp_add (Cond.code y_Hp_add b_Hp_add 3 (some .int) :: lw_gd) 1 21 (dC, dI) cA [.ref (ad 2), .int a1] (wA ad cA) u sz (fun v w1 => v = r ∧ w1 = w) := by
  refine v_metI (own := R_Hp) [some (.ref (ad 2)), some (.int a1), none] rfl (by decide) (Nat.le_of_ble_eq_true rfl) rfl rfl (fun v u h => rfl) ?_
  intro p e s m args below meth c A Q ret
  unfold f_Hp_add at h
  refine v_iload_n d_Hp_add_0 rfl rfl ?_
  refine v_bipush 8 d_Hp_add_1 (by decide) rfl ?_
  refine v_imul d_Hp_add_3 rfl ?_
  refine v_istore_n (lo' := [_, _, _]) d_Hp_add_4 rfl (by decide) rfl ?_
  have L5 : ∀ (κ : Mem → Rs), (∀ (u12 : Mem), κ u12 = some (r, w) → VJ p l e 1 0 0 21 s m args below meth c 0 0 Q A b_Hp_add 3 R_Hp (dC, dI) cA (wA ad cA) 54 [none, none, none] [] u12) → ∀ (n : Nat) (x1 x2 : Int32) (u3 : Mem), k_Hp_add_5 N κ n x1 x2 u3 = some (r, w) → VJ p l e 1 0 0 21 s m args below meth c 0 0 Q A b_Hp_add 3 R_Hp (dC, dI) cA (wA ad cA) 5 [some (.ref (ad 2)), some (.int x1), some (.int x2)] [] u3 := by
    intro κ hκ n
    induction n with
    | zero =>
      intro x1 x2 u3 h
      exact no_ns h
    | succ n ih =>
      intro x1 x2 u3 h
      unfold k_Hp_add_5 at h
      refine v_iload_n d_Hp_add_5 rfl rfl ?_
      refine v_iload_n d_Hp_add_6 rfl rfl ?_
      refine v_iconst 1 d_Hp_add_7 (by decide) rfl ?_
      refine v_iadd d_Hp_add_8 rfl ?_
      refine v_bipush 8 d_Hp_add_9 (by decide) rfl ?_
      refine v_imul d_Hp_add_11 rfl ?_
      refine v_icmp_ge 54 d_Hp_add_12 (by decide) rfl (fun c11 => ?_) (fun c11 => ?_)
      · replace h := (if_pos c11).symm.trans h
        refine v_drop 0 (lo' := [none, _, _]) rfl ?_
        refine v_drop 1 (lo' := [none, none, _]) rfl ?_
        refine v_drop 2 (lo' := [none, none, none]) rfl ?_
        exact hκ _ h
      · replace h := (if_neg c11).symm.trans h
        refine v_aload_n d_Hp_add_15 rfl rfl ?_
        refine v_iload_n d_Hp_add_16 rfl rfl ?_
        obtain ⟨y4, u5, hc6, h⟩ := bd_inv h
        refine vc_Hp_Hp_isTaken hc6 (Nat.le_of_ble_eq_true rfl) (Nat.le_of_ble_eq_true rfl) (Nat.le_of_ble_eq_true rfl) d_Hp_add_17 rfl ?_
        refine v_if_ne 48 d_Hp_add_20 (by decide) rfl (fun c10 => ?_) (fun c10 => ?_)
        · replace h := (if_pos c10).symm.trans h
          refine v_aload_n d_Hp_add_23 rfl rfl ?_
          refine v_dup d_Hp_add_24 rfl rfl ?_
          refine vg_Hp_made d_Hp_add_25 rfl ?_
          refine v_iconst 1 d_Hp_add_28 (by decide) rfl ?_
          refine v_iadd d_Hp_add_29 rfl ?_
          obtain ⟨u7, eu7, h⟩ := jn_inv h
          refine vp_Hp_made eu7 d_Hp_add_30 rfl ?_
          refine v_aload_n d_Hp_add_33 rfl rfl ?_
          refine vg_Hp_numbers d_Hp_add_34 rfl ?_
          refine v_iload_n d_Hp_add_37 rfl rfl ?_
          refine v_aload_n d_Hp_add_38 rfl rfl ?_
          refine vg_Hp_made d_Hp_add_39 rfl ?_
          obtain ⟨g8, h⟩ := gd_inv h
          obtain ⟨u9, eu9, h⟩ := jn_inv h
          refine v_ast 3 (wA_3 ad cA _) (ws_3 ad cA _ _ _) eu9 d_Hp_add_42 g8 rfl ?_
          refine v_aload_n d_Hp_add_43 rfl rfl ?_
          refine vg_Hp_made d_Hp_add_44 rfl ?_
          obtain ⟨e1, e2⟩ := rt_inv h
          exact ret _ _ _ _ ⟨e1, e2⟩ d_Hp_add_47
        · replace h := (if_neg c10).symm.trans h
          refine v_iinc (lo' := [_, _, _]) 1 d_Hp_add_48 (by decide) rfl rfl (by decide) rfl ?_
          refine v_goto 5 d_Hp_add_51 (by decide) ?_
          exact ih _ _ _ h
  refine L5 _ (fun u12 h => ?_) N _ _ _ h
  refine v_iconst (-1) d_Hp_add_54 (by decide) rfl ?_
  obtain ⟨e1, e2⟩ := rt_inv h
  exact ret _ _ _ _ ⟨e1, e2⟩ d_Hp_add_55
theorem vc_Sh_Hp_add {p : Program} {l : Launch} {e : Env} {fr rc rs rl : Nat} {s : State} {m : MethodId} {args : Array Value} {below : List Frame} {meth : Method} {c : Code} {cells slots : Nat} {Q : State → Prop} {A : Nat → Prop} {cc : ByteArray} {nL : Nat} {dC : Nat → ClassId} {dI : Nat → Nat → Nat} {cA : ClassId} {ad : Nat → Nat} {pc q : Nat} {lo : List (Option Value)} {rest : List Value} {u w : Mem} {r : Int32} {N : Nat} {b0 : Int32} (h : f_Hp_add N b0 u = some (r, w)) (hfr : 1 + 1 ≤ fr) (hrl : 8 + (3 + 11) + 21 ≤ rl) (hrm : (rest.map fun v => v.category).sum ≤ 8) (hd : decode cc pc = .ok (.invokevirtual 60, 3)) (hq : pc + 3 = q) (k : VJ p l e fr rc rs rl s m args below meth c cells slots Q A cc nL R_Sh (dC, dI) cA (wA ad cA) q lo (.int r :: rest) w) : VJ p l e fr rc rs rl s m args below meth c cells slots Q A cc nL R_Sh (dC, dI) cA (wA ad cA) pc lo (.int b0 :: .ref (ad 2) :: rest) u :=
  v_callVI (As := [.int b0]) (rest := rest) (fun sz => c_Hp_add l dC dI ad cA sz N b0 u r w h) tw_137 tw_138 tw_139 2 (wA_2 ad cA u) rfl rfl tw_140 tw_25 1 rfl (by decide +kernel) hfr hrl rfl hrm hd hq (fun v w1 hE => by obtain ⟨rfl, rfl⟩ := hE; exact k)
theorem d_Hp_slotOf_0 : decode b_Hp_slotOf 0 = .ok (.iload_n 1, 1) := by decide +kernel
theorem d_Hp_slotOf_1 : decode b_Hp_slotOf 1 = .ok (.ifCond .gt 5, 3) := by decide +kernel
theorem d_Hp_slotOf_4 : decode b_Hp_slotOf 4 = .ok (.iconst (-1), 1) := by decide +kernel
theorem d_Hp_slotOf_5 : decode b_Hp_slotOf 5 = .ok (.ireturn, 1) := by decide +kernel
theorem d_Hp_slotOf_6 : decode b_Hp_slotOf 6 = .ok (.iconst 0, 1) := by decide +kernel
theorem d_Hp_slotOf_7 : decode b_Hp_slotOf 7 = .ok (.istore_n 2, 1) := by decide +kernel
theorem d_Hp_slotOf_8 : decode b_Hp_slotOf 8 = .ok (.iload_n 2, 1) := by decide +kernel
theorem d_Hp_slotOf_9 : decode b_Hp_slotOf 9 = .ok (.bipush 24, 2) := by decide +kernel
theorem d_Hp_slotOf_11 : decode b_Hp_slotOf 11 = .ok (.if_icmp .ge 21, 3) := by decide +kernel
theorem d_Hp_slotOf_14 : decode b_Hp_slotOf 14 = .ok (.aload_n 0, 1) := by decide +kernel
theorem d_Hp_slotOf_15 : decode b_Hp_slotOf 15 = .ok (.getfield 9, 3) := by decide +kernel
theorem d_Hp_slotOf_18 : decode b_Hp_slotOf 18 = .ok (.iload_n 2, 1) := by decide +kernel
theorem d_Hp_slotOf_19 : decode b_Hp_slotOf 19 = .ok (.iaload, 1) := by decide +kernel
theorem d_Hp_slotOf_20 : decode b_Hp_slotOf 20 = .ok (.iload_n 1, 1) := by decide +kernel
theorem d_Hp_slotOf_21 : decode b_Hp_slotOf 21 = .ok (.if_icmp .ne 5, 3) := by decide +kernel
theorem d_Hp_slotOf_24 : decode b_Hp_slotOf 24 = .ok (.iload_n 2, 1) := by decide +kernel
theorem d_Hp_slotOf_25 : decode b_Hp_slotOf 25 = .ok (.ireturn, 1) := by decide +kernel
theorem d_Hp_slotOf_26 : decode b_Hp_slotOf 26 = .ok (.iinc 2 1, 3) := by decide +kernel
theorem d_Hp_slotOf_29 : decode b_Hp_slotOf 29 = .ok (.goto (-21), 3) := by decide +kernel
theorem d_Hp_slotOf_32 : decode b_Hp_slotOf 32 = .ok (.iconst (-1), 1) := by decide +kernel
theorem d_Hp_slotOf_33 : decode b_Hp_slotOf 33 = .ok (.ireturn, 1) := by decide +kernel
set_option maxHeartbeats 4000000 in
set_option maxRecDepth 100000 in
theorem c_Hp_slotOf (l : Launch) (dC : Nat → ClassId) (dI : Nat → Nat → Nat) (ad : Nat → Nat) (cA : ClassId) (sz : Nat) (N : Nat) (a1 : Int32) (u : Mem) (r : Int32) (w : Mem) (h : f_Hp_slotOf N a1 u = some (r, w)) : CtI l y_Hp_slotOf (Cond.code y_Hp_slotOf b_Hp_slotOf 3 (some .int) :: lw_gd) 0 0 (dC, dI) cA [.ref (ad 2), .int a1] (wA ad cA) u sz (fun v w1 => v = r ∧ w1 = w) := by
  refine v_metI (own := R_Hp) [some (.ref (ad 2)), some (.int a1), none] rfl (by decide) (Nat.le_of_ble_eq_true rfl) rfl rfl (fun v u h => rfl) ?_
  intro p e s m args below meth c A Q ret
  unfold f_Hp_slotOf at h
  refine v_iload_n d_Hp_slotOf_0 rfl rfl ?_
  refine v_if_gt 6 d_Hp_slotOf_1 (by decide) rfl (fun c8 => ?_) (fun c8 => ?_)
  · replace h := (if_pos c8).symm.trans h
    refine v_iconst 0 d_Hp_slotOf_6 (by decide) rfl ?_
    refine v_istore_n (lo' := [_, _, _]) d_Hp_slotOf_7 rfl (by decide) rfl ?_
    have L8 : ∀ (κ : Mem → Rs), (∀ (u7 : Mem), κ u7 = some (r, w) → VJ p l e 0 0 0 0 s m args below meth c 0 0 Q A b_Hp_slotOf 3 R_Hp (dC, dI) cA (wA ad cA) 32 [none, none, none] [] u7) → ∀ (n : Nat) (x1 x2 : Int32) (u3 : Mem), k_Hp_slotOf_8 N κ n x1 x2 u3 = some (r, w) → VJ p l e 0 0 0 0 s m args below meth c 0 0 Q A b_Hp_slotOf 3 R_Hp (dC, dI) cA (wA ad cA) 8 [some (.ref (ad 2)), some (.int x1), some (.int x2)] [] u3 := by
      intro κ hκ n
      induction n with
      | zero =>
        intro x1 x2 u3 h
        exact no_ns h
      | succ n ih =>
        intro x1 x2 u3 h
        unfold k_Hp_slotOf_8 at h
        refine v_iload_n d_Hp_slotOf_8 rfl rfl ?_
        refine v_bipush 24 d_Hp_slotOf_9 (by decide) rfl ?_
        refine v_icmp_ge 32 d_Hp_slotOf_11 (by decide) rfl (fun c6 => ?_) (fun c6 => ?_)
        · replace h := (if_pos c6).symm.trans h
          refine v_drop 0 (lo' := [none, _, _]) rfl ?_
          refine v_drop 1 (lo' := [none, none, _]) rfl ?_
          refine v_drop 2 (lo' := [none, none, none]) rfl ?_
          exact hκ _ h
        · replace h := (if_neg c6).symm.trans h
          refine v_aload_n d_Hp_slotOf_14 rfl rfl ?_
          refine vg_Hp_numbers d_Hp_slotOf_15 rfl ?_
          refine v_iload_n d_Hp_slotOf_18 rfl rfl ?_
          obtain ⟨g4, h⟩ := gd_inv h
          refine v_ald 3 (wA_3 ad cA _) d_Hp_slotOf_19 g4 rfl ?_
          refine v_iload_n d_Hp_slotOf_20 rfl rfl ?_
          refine v_icmp_ne 26 d_Hp_slotOf_21 (by decide) rfl (fun c5 => ?_) (fun c5 => ?_)
          · replace h := (if_pos c5).symm.trans h
            refine v_iload_n d_Hp_slotOf_24 rfl rfl ?_
            obtain ⟨e1, e2⟩ := rt_inv h
            exact ret _ _ _ _ ⟨e1, e2⟩ d_Hp_slotOf_25
          · replace h := (if_neg c5).symm.trans h
            refine v_iinc (lo' := [_, _, _]) 1 d_Hp_slotOf_26 (by decide) rfl rfl (by decide) rfl ?_
            refine v_goto 8 d_Hp_slotOf_29 (by decide) ?_
            exact ih _ _ _ h
    refine L8 _ (fun u7 h => ?_) N _ _ _ h
    refine v_iconst (-1) d_Hp_slotOf_32 (by decide) rfl ?_
    obtain ⟨e1, e2⟩ := rt_inv h
    exact ret _ _ _ _ ⟨e1, e2⟩ d_Hp_slotOf_33
  · replace h := (if_neg c8).symm.trans h
    refine v_iconst (-1) d_Hp_slotOf_4 (by decide) rfl ?_
    obtain ⟨e1, e2⟩ := rt_inv h
    exact ret _ _ _ _ ⟨e1, e2⟩ d_Hp_slotOf_5
theorem vc_Sh_Hp_slotOf {p : Program} {l : Launch} {e : Env} {fr rc rs rl : Nat} {s : State} {m : MethodId} {args : Array Value} {below : List Frame} {meth : Method} {c : Code} {cells slots : Nat} {Q : State → Prop} {A : Nat → Prop} {cc : ByteArray} {nL : Nat} {dC : Nat → ClassId} {dI : Nat → Nat → Nat} {cA : ClassId} {ad : Nat → Nat} {pc q : Nat} {lo : List (Option Value)} {rest : List Value} {u w : Mem} {r : Int32} {N : Nat} {b0 : Int32} (h : f_Hp_slotOf N b0 u = some (r, w)) (hfr : 0 + 1 ≤ fr) (hrl : 8 + (3 + 11) + 0 ≤ rl) (hrm : (rest.map fun v => v.category).sum ≤ 8) (hd : decode cc pc = .ok (.invokevirtual 70, 3)) (hq : pc + 3 = q) (k : VJ p l e fr rc rs rl s m args below meth c cells slots Q A cc nL R_Sh (dC, dI) cA (wA ad cA) q lo (.int r :: rest) w) : VJ p l e fr rc rs rl s m args below meth c cells slots Q A cc nL R_Sh (dC, dI) cA (wA ad cA) pc lo (.int b0 :: .ref (ad 2) :: rest) u :=
  v_callVI (As := [.int b0]) (rest := rest) (fun sz => c_Hp_slotOf l dC dI ad cA sz N b0 u r w h) tw_145 tw_146 tw_147 2 (wA_2 ad cA u) rfl rfl tw_148 tw_25 1 rfl (by decide +kernel) hfr hrl rfl hrm hd hq (fun v w1 hE => by obtain ⟨rfl, rfl⟩ := hE; exact k)
theorem d_Hp_nodeOf_0 : decode b_Hp_nodeOf 0 = .ok (.iload_n 0, 1) := by decide +kernel
theorem d_Hp_nodeOf_1 : decode b_Hp_nodeOf 1 = .ok (.bipush 8, 2) := by decide +kernel
theorem d_Hp_nodeOf_3 : decode b_Hp_nodeOf 3 = .ok (.idiv, 1) := by decide +kernel
theorem d_Hp_nodeOf_4 : decode b_Hp_nodeOf 4 = .ok (.ireturn, 1) := by decide +kernel
set_option maxHeartbeats 4000000 in
set_option maxRecDepth 100000 in
theorem c_Hp_nodeOf (l : Launch) (dC : Nat → ClassId) (dI : Nat → Nat → Nat) (ad : Nat → Nat) (cA : ClassId) (sz : Nat) (N : Nat) (a0 : Int32) (u : Mem) (r : Int32) (w : Mem) (h : f_Hp_nodeOf N a0 u = some (r, w)) : CtI l y_Hp_nodeOf (Cond.code y_Hp_nodeOf b_Hp_nodeOf 1 (some .int) :: lw_gd) 0 0 (dC, dI) cA [.int a0] (wA ad cA) u sz (fun v w1 => v = r ∧ w1 = w) := by
  refine v_metI (own := R_Hp) [some (.int a0)] rfl (by decide) (Nat.le_of_ble_eq_true rfl) rfl rfl (fun v u h => rfl) ?_
  intro p e s m args below meth c A Q ret
  unfold f_Hp_nodeOf at h
  refine v_iload_n d_Hp_nodeOf_0 rfl rfl ?_
  refine v_bipush 8 d_Hp_nodeOf_1 (by decide) rfl ?_
  refine v_idiv d_Hp_nodeOf_3 (by decide) rfl ?_
  obtain ⟨e1, e2⟩ := rt_inv h
  exact ret _ _ _ _ ⟨e1, e2⟩ d_Hp_nodeOf_4
theorem vc_Sh_Hp_nodeOf {p : Program} {l : Launch} {e : Env} {fr rc rs rl : Nat} {s : State} {m : MethodId} {args : Array Value} {below : List Frame} {meth : Method} {c : Code} {cells slots : Nat} {Q : State → Prop} {A : Nat → Prop} {cc : ByteArray} {nL : Nat} {dC : Nat → ClassId} {dI : Nat → Nat → Nat} {cA : ClassId} {ad : Nat → Nat} {pc q : Nat} {lo : List (Option Value)} {rest : List Value} {u w : Mem} {r : Int32} {N : Nat} {b0 : Int32} (h : f_Hp_nodeOf N b0 u = some (r, w)) (hfr : 0 + 1 ≤ fr) (hrl : 8 + (1 + 11) + 0 ≤ rl) (hrm : (rest.map fun v => v.category).sum ≤ 8) (hd : decode cc pc = .ok (.invokestatic 77, 3)) (hq : pc + 3 = q) (k : VJ p l e fr rc rs rl s m args below meth c cells slots Q A cc nL R_Sh (dC, dI) cA (wA ad cA) q lo (.int r :: rest) w) : VJ p l e fr rc rs rl s m args below meth c cells slots Q A cc nL R_Sh (dC, dI) cA (wA ad cA) pc lo (.int b0 ::  rest) u :=
  v_callSI (As := [.int b0]) (rest := rest) (fun sz => c_Hp_nodeOf l dC dI ad cA sz N b0 u r w h) tw_149 tw_150 tw_151 tw_25 1 rfl (by decide +kernel) hfr hrl rfl hrm hd hq (fun v w1 hE => by obtain ⟨rfl, rfl⟩ := hE; exact k)
theorem d_Xt_rowOf_0 : decode b_Xt_rowOf 0 = .ok (.iconst 0, 1) := by decide +kernel
theorem d_Xt_rowOf_1 : decode b_Xt_rowOf 1 = .ok (.istore_n 3, 1) := by decide +kernel
theorem d_Xt_rowOf_2 : decode b_Xt_rowOf 2 = .ok (.iload_n 3, 1) := by decide +kernel
theorem d_Xt_rowOf_3 : decode b_Xt_rowOf 3 = .ok (.aload_n 0, 1) := by decide +kernel
theorem d_Xt_rowOf_4 : decode b_Xt_rowOf 4 = .ok (.getfield 21, 3) := by decide +kernel
theorem d_Xt_rowOf_7 : decode b_Xt_rowOf 7 = .ok (.if_icmp .ge 31, 3) := by decide +kernel
theorem d_Xt_rowOf_10 : decode b_Xt_rowOf 10 = .ok (.aload_n 0, 1) := by decide +kernel
theorem d_Xt_rowOf_11 : decode b_Xt_rowOf 11 = .ok (.getfield 11, 3) := by decide +kernel
theorem d_Xt_rowOf_14 : decode b_Xt_rowOf 14 = .ok (.iload_n 3, 1) := by decide +kernel
theorem d_Xt_rowOf_15 : decode b_Xt_rowOf 15 = .ok (.iaload, 1) := by decide +kernel
theorem d_Xt_rowOf_16 : decode b_Xt_rowOf 16 = .ok (.iload_n 1, 1) := by decide +kernel
theorem d_Xt_rowOf_17 : decode b_Xt_rowOf 17 = .ok (.if_icmp .ne 15, 3) := by decide +kernel
theorem d_Xt_rowOf_20 : decode b_Xt_rowOf 20 = .ok (.aload_n 0, 1) := by decide +kernel
theorem d_Xt_rowOf_21 : decode b_Xt_rowOf 21 = .ok (.getfield 15, 3) := by decide +kernel
theorem d_Xt_rowOf_24 : decode b_Xt_rowOf 24 = .ok (.iload_n 3, 1) := by decide +kernel
theorem d_Xt_rowOf_25 : decode b_Xt_rowOf 25 = .ok (.iaload, 1) := by decide +kernel
theorem d_Xt_rowOf_26 : decode b_Xt_rowOf 26 = .ok (.iload_n 2, 1) := by decide +kernel
theorem d_Xt_rowOf_27 : decode b_Xt_rowOf 27 = .ok (.if_icmp .ne 5, 3) := by decide +kernel
theorem d_Xt_rowOf_30 : decode b_Xt_rowOf 30 = .ok (.iload_n 3, 1) := by decide +kernel
theorem d_Xt_rowOf_31 : decode b_Xt_rowOf 31 = .ok (.ireturn, 1) := by decide +kernel
theorem d_Xt_rowOf_32 : decode b_Xt_rowOf 32 = .ok (.iinc 3 1, 3) := by decide +kernel
theorem d_Xt_rowOf_35 : decode b_Xt_rowOf 35 = .ok (.goto (-33), 3) := by decide +kernel
theorem d_Xt_rowOf_38 : decode b_Xt_rowOf 38 = .ok (.iconst (-1), 1) := by decide +kernel
theorem d_Xt_rowOf_39 : decode b_Xt_rowOf 39 = .ok (.ireturn, 1) := by decide +kernel
set_option maxHeartbeats 4000000 in
set_option maxRecDepth 100000 in
theorem c_Xt_rowOf (l : Launch) (dC : Nat → ClassId) (dI : Nat → Nat → Nat) (ad : Nat → Nat) (cA : ClassId) (sz : Nat) (N : Nat) (a1 a2 : Int32) (u : Mem) (r : Int32) (w : Mem) (h : f_Xt_rowOf N a1 a2 u = some (r, w)) : CtI l y_Xt_rowOf (Cond.code y_Xt_rowOf b_Xt_rowOf 4 (some .int) :: lw_gd) 0 0 (dC, dI) cA [.ref (ad 6), .int a1, .int a2] (wA ad cA) u sz (fun v w1 => v = r ∧ w1 = w) := by
  refine v_metI (own := R_Xt) [some (.ref (ad 6)), some (.int a1), some (.int a2), none] rfl (by decide) (Nat.le_of_ble_eq_true rfl) rfl rfl (fun v u h => rfl) ?_
  intro p e s m args below meth c A Q ret
  unfold f_Xt_rowOf at h
  refine v_iconst 0 d_Xt_rowOf_0 (by decide) rfl ?_
  refine v_istore_n (lo' := [_, _, _, _]) d_Xt_rowOf_1 rfl (by decide) rfl ?_
  have L2 : ∀ (κ : Mem → Rs), (∀ (u10 : Mem), κ u10 = some (r, w) → VJ p l e 0 0 0 0 s m args below meth c 0 0 Q A b_Xt_rowOf 4 R_Xt (dC, dI) cA (wA ad cA) 38 [none, none, none, none] [] u10) → ∀ (n : Nat) (x1 x2 x3 : Int32) (u4 : Mem), k_Xt_rowOf_2 N κ n x1 x2 x3 u4 = some (r, w) → VJ p l e 0 0 0 0 s m args below meth c 0 0 Q A b_Xt_rowOf 4 R_Xt (dC, dI) cA (wA ad cA) 2 [some (.ref (ad 6)), some (.int x1), some (.int x2), some (.int x3)] [] u4 := by
    intro κ hκ n
    induction n with
    | zero =>
      intro x1 x2 x3 u4 h
      exact no_ns h
    | succ n ih =>
      intro x1 x2 x3 u4 h
      unfold k_Xt_rowOf_2 at h
      refine v_iload_n d_Xt_rowOf_2 rfl rfl ?_
      refine v_aload_n d_Xt_rowOf_3 rfl rfl ?_
      refine vg_Xt_size d_Xt_rowOf_4 rfl ?_
      refine v_icmp_ge 38 d_Xt_rowOf_7 (by decide) rfl (fun c9 => ?_) (fun c9 => ?_)
      · replace h := (if_pos c9).symm.trans h
        refine v_drop 0 (lo' := [none, _, _, _]) rfl ?_
        refine v_drop 1 (lo' := [none, none, _, _]) rfl ?_
        refine v_drop 2 (lo' := [none, none, none, _]) rfl ?_
        refine v_drop 3 (lo' := [none, none, none, none]) rfl ?_
        exact hκ _ h
      · replace h := (if_neg c9).symm.trans h
        refine v_aload_n d_Xt_rowOf_10 rfl rfl ?_
        refine vg_Xt_nodes d_Xt_rowOf_11 rfl ?_
        refine v_iload_n d_Xt_rowOf_14 rfl rfl ?_
        obtain ⟨g5, h⟩ := gd_inv h
        refine v_ald 7 (wA_7 ad cA _) d_Xt_rowOf_15 g5 rfl ?_
        refine v_iload_n d_Xt_rowOf_16 rfl rfl ?_
        refine v_icmp_ne 32 d_Xt_rowOf_17 (by decide) rfl (fun c8 => ?_) (fun c8 => ?_)
        · replace h := (if_pos c8).symm.trans h
          refine v_aload_n d_Xt_rowOf_20 rfl rfl ?_
          refine vg_Xt_objects d_Xt_rowOf_21 rfl ?_
          refine v_iload_n d_Xt_rowOf_24 rfl rfl ?_
          obtain ⟨g6, h⟩ := gd_inv h
          refine v_ald 8 (wA_8 ad cA _) d_Xt_rowOf_25 g6 rfl ?_
          refine v_iload_n d_Xt_rowOf_26 rfl rfl ?_
          refine v_icmp_ne 32 d_Xt_rowOf_27 (by decide) rfl (fun c7 => ?_) (fun c7 => ?_)
          · replace h := (if_pos c7).symm.trans h
            refine v_iload_n d_Xt_rowOf_30 rfl rfl ?_
            obtain ⟨e1, e2⟩ := rt_inv h
            exact ret _ _ _ _ ⟨e1, e2⟩ d_Xt_rowOf_31
          · replace h := (if_neg c7).symm.trans h
            refine v_iinc (lo' := [_, _, _, _]) 1 d_Xt_rowOf_32 (by decide) rfl rfl (by decide) rfl ?_
            refine v_goto 2 d_Xt_rowOf_35 (by decide) ?_
            exact ih _ _ _ _ h
        · replace h := (if_neg c8).symm.trans h
          refine v_iinc (lo' := [_, _, _, _]) 1 d_Xt_rowOf_32 (by decide) rfl rfl (by decide) rfl ?_
          refine v_goto 2 d_Xt_rowOf_35 (by decide) ?_
          exact ih _ _ _ _ h
  refine L2 _ (fun u10 h => ?_) N _ _ _ _ h
  refine v_iconst (-1) d_Xt_rowOf_38 (by decide) rfl ?_
  obtain ⟨e1, e2⟩ := rt_inv h
  exact ret _ _ _ _ ⟨e1, e2⟩ d_Xt_rowOf_39
theorem vc_Sh_Xt_rowOf {p : Program} {l : Launch} {e : Env} {fr rc rs rl : Nat} {s : State} {m : MethodId} {args : Array Value} {below : List Frame} {meth : Method} {c : Code} {cells slots : Nat} {Q : State → Prop} {A : Nat → Prop} {cc : ByteArray} {nL : Nat} {dC : Nat → ClassId} {dI : Nat → Nat → Nat} {cA : ClassId} {ad : Nat → Nat} {pc q : Nat} {lo : List (Option Value)} {rest : List Value} {u w : Mem} {r : Int32} {N : Nat} {b0 b1 : Int32} (h : f_Xt_rowOf N b0 b1 u = some (r, w)) (hfr : 0 + 1 ≤ fr) (hrl : 8 + (4 + 11) + 0 ≤ rl) (hrm : (rest.map fun v => v.category).sum ≤ 8) (hd : decode cc pc = .ok (.invokevirtual 139, 3)) (hq : pc + 3 = q) (k : VJ p l e fr rc rs rl s m args below meth c cells slots Q A cc nL R_Sh (dC, dI) cA (wA ad cA) q lo (.int r :: rest) w) : VJ p l e fr rc rs rl s m args below meth c cells slots Q A cc nL R_Sh (dC, dI) cA (wA ad cA) pc lo (.int b1 :: .int b0 :: .ref (ad 6) :: rest) u :=
  v_callVI (As := [.int b0, .int b1]) (rest := rest) (fun sz => c_Xt_rowOf l dC dI ad cA sz N b0 b1 u r w h) tw_367 tw_157 tw_158 6 (wA_6 ad cA u) rfl rfl tw_159 tw_26 2 rfl (by decide +kernel) hfr hrl rfl hrm hd hq (fun v w1 hE => by obtain ⟨rfl, rfl⟩ := hE; exact k)
theorem vc_Xt_Xt_rowOf {p : Program} {l : Launch} {e : Env} {fr rc rs rl : Nat} {s : State} {m : MethodId} {args : Array Value} {below : List Frame} {meth : Method} {c : Code} {cells slots : Nat} {Q : State → Prop} {A : Nat → Prop} {cc : ByteArray} {nL : Nat} {dC : Nat → ClassId} {dI : Nat → Nat → Nat} {cA : ClassId} {ad : Nat → Nat} {pc q : Nat} {lo : List (Option Value)} {rest : List Value} {u w : Mem} {r : Int32} {N : Nat} {b0 b1 : Int32} (h : f_Xt_rowOf N b0 b1 u = some (r, w)) (hfr : 0 + 1 ≤ fr) (hrl : 8 + (4 + 11) + 0 ≤ rl) (hrm : (rest.map fun v => v.category).sum ≤ 8) (hd : decode cc pc = .ok (.invokevirtual 25, 3)) (hq : pc + 3 = q) (k : VJ p l e fr rc rs rl s m args below meth c cells slots Q A cc nL R_Xt (dC, dI) cA (wA ad cA) q lo (.int r :: rest) w) : VJ p l e fr rc rs rl s m args below meth c cells slots Q A cc nL R_Xt (dC, dI) cA (wA ad cA) pc lo (.int b1 :: .int b0 :: .ref (ad 6) :: rest) u :=
  v_callVI (As := [.int b0, .int b1]) (rest := rest) (fun sz => c_Xt_rowOf l dC dI ad cA sz N b0 b1 u r w h) tw_156 tw_157 tw_158 6 (wA_6 ad cA u) rfl rfl tw_159 tw_26 2 rfl (by decide +kernel) hfr hrl rfl hrm hd hq (fun v w1 hE => by obtain ⟨rfl, rfl⟩ := hE; exact k)
theorem d_Xt_copyRow_0 : decode b_Xt_copyRow 0 = .ok (.aload_n 0, 1) := by decide +kernel
theorem d_Xt_copyRow_1 : decode b_Xt_copyRow 1 = .ok (.getfield 11, 3) := by decide +kernel
theorem d_Xt_copyRow_4 : decode b_Xt_copyRow 4 = .ok (.iload_n 2, 1) := by decide +kernel
theorem d_Xt_copyRow_5 : decode b_Xt_copyRow 5 = .ok (.aload_n 0, 1) := by decide +kernel
theorem d_Xt_copyRow_6 : decode b_Xt_copyRow 6 = .ok (.getfield 11, 3) := by decide +kernel
theorem d_Xt_copyRow_9 : decode b_Xt_copyRow 9 = .ok (.iload_n 1, 1) := by decide +kernel
theorem d_Xt_copyRow_10 : decode b_Xt_copyRow 10 = .ok (.iaload, 1) := by decide +kernel
theorem d_Xt_copyRow_11 : decode b_Xt_copyRow 11 = .ok (.iastore, 1) := by decide +kernel
theorem d_Xt_copyRow_12 : decode b_Xt_copyRow 12 = .ok (.aload_n 0, 1) := by decide +kernel
theorem d_Xt_copyRow_13 : decode b_Xt_copyRow 13 = .ok (.getfield 15, 3) := by decide +kernel
theorem d_Xt_copyRow_16 : decode b_Xt_copyRow 16 = .ok (.iload_n 2, 1) := by decide +kernel
theorem d_Xt_copyRow_17 : decode b_Xt_copyRow 17 = .ok (.aload_n 0, 1) := by decide +kernel
theorem d_Xt_copyRow_18 : decode b_Xt_copyRow 18 = .ok (.getfield 15, 3) := by decide +kernel
theorem d_Xt_copyRow_21 : decode b_Xt_copyRow 21 = .ok (.iload_n 1, 1) := by decide +kernel
theorem d_Xt_copyRow_22 : decode b_Xt_copyRow 22 = .ok (.iaload, 1) := by decide +kernel
theorem d_Xt_copyRow_23 : decode b_Xt_copyRow 23 = .ok (.iastore, 1) := by decide +kernel
theorem d_Xt_copyRow_24 : decode b_Xt_copyRow 24 = .ok (.aload_n 0, 1) := by decide +kernel
theorem d_Xt_copyRow_25 : decode b_Xt_copyRow 25 = .ok (.getfield 18, 3) := by decide +kernel
theorem d_Xt_copyRow_28 : decode b_Xt_copyRow 28 = .ok (.iload_n 2, 1) := by decide +kernel
theorem d_Xt_copyRow_29 : decode b_Xt_copyRow 29 = .ok (.aload_n 0, 1) := by decide +kernel
theorem d_Xt_copyRow_30 : decode b_Xt_copyRow 30 = .ok (.getfield 18, 3) := by decide +kernel
theorem d_Xt_copyRow_33 : decode b_Xt_copyRow 33 = .ok (.iload_n 1, 1) := by decide +kernel
theorem d_Xt_copyRow_34 : decode b_Xt_copyRow 34 = .ok (.iaload, 1) := by decide +kernel
theorem d_Xt_copyRow_35 : decode b_Xt_copyRow 35 = .ok (.iastore, 1) := by decide +kernel
theorem d_Xt_copyRow_36 : decode b_Xt_copyRow 36 = .ok (.return_, 1) := by decide +kernel
set_option maxHeartbeats 4000000 in
set_option maxRecDepth 100000 in
theorem c_Xt_copyRow (l : Launch) (dC : Nat → ClassId) (dI : Nat → Nat → Nat) (ad : Nat → Nat) (cA : ClassId) (sz : Nat) (N : Nat) (a1 a2 : Int32) (u : Mem) (r : Int32) (w : Mem) (h : f_Xt_copyRow N a1 a2 u = some (r, w)) : CtV l y_Xt_copyRow (Cond.code y_Xt_copyRow b_Xt_copyRow 3 none :: lw_gd) 0 0 (dC, dI) cA [.ref (ad 6), .int a1, .int a2] (wA ad cA) u sz (fun w1 => w1 = w) := by
  refine v_metV (own := R_Xt) [some (.ref (ad 6)), some (.int a1), some (.int a2)] rfl (by decide) (Nat.le_of_ble_eq_true rfl) rfl rfl ?_
  intro p e s m args below meth c A Q ret
  unfold f_Xt_copyRow at h
  refine v_aload_n d_Xt_copyRow_0 rfl rfl ?_
  refine vg_Xt_nodes d_Xt_copyRow_1 rfl ?_
  refine v_iload_n d_Xt_copyRow_4 rfl rfl ?_
  refine v_aload_n d_Xt_copyRow_5 rfl rfl ?_
  refine vg_Xt_nodes d_Xt_copyRow_6 rfl ?_
  refine v_iload_n d_Xt_copyRow_9 rfl rfl ?_
  obtain ⟨g1, h⟩ := gd_inv h
  refine v_ald 7 (wA_7 ad cA _) d_Xt_copyRow_10 g1 rfl ?_
  obtain ⟨g2, h⟩ := gd_inv h
  obtain ⟨u3, eu3, h⟩ := jn_inv h
  refine v_ast 7 (wA_7 ad cA _) (ws_7 ad cA _ _ _) eu3 d_Xt_copyRow_11 g2 rfl ?_
  refine v_aload_n d_Xt_copyRow_12 rfl rfl ?_
  refine vg_Xt_objects d_Xt_copyRow_13 rfl ?_
  refine v_iload_n d_Xt_copyRow_16 rfl rfl ?_
  refine v_aload_n d_Xt_copyRow_17 rfl rfl ?_
  refine vg_Xt_objects d_Xt_copyRow_18 rfl ?_
  refine v_iload_n d_Xt_copyRow_21 rfl rfl ?_
  obtain ⟨g4, h⟩ := gd_inv h
  refine v_ald 8 (wA_8 ad cA _) d_Xt_copyRow_22 g4 rfl ?_
  obtain ⟨g5, h⟩ := gd_inv h
  obtain ⟨u6, eu6, h⟩ := jn_inv h
  refine v_ast 8 (wA_8 ad cA _) (ws_8 ad cA _ _ _) eu6 d_Xt_copyRow_23 g5 rfl ?_
  refine v_aload_n d_Xt_copyRow_24 rfl rfl ?_
  refine vg_Xt_stamps d_Xt_copyRow_25 rfl ?_
  refine v_iload_n d_Xt_copyRow_28 rfl rfl ?_
  refine v_aload_n d_Xt_copyRow_29 rfl rfl ?_
  refine vg_Xt_stamps d_Xt_copyRow_30 rfl ?_
  refine v_iload_n d_Xt_copyRow_33 rfl rfl ?_
  obtain ⟨g7, h⟩ := gd_inv h
  refine v_ald 9 (wA_9 ad cA _) d_Xt_copyRow_34 g7 rfl ?_
  obtain ⟨g8, h⟩ := gd_inv h
  obtain ⟨u9, eu9, h⟩ := jn_inv h
  refine v_ast 9 (wA_9 ad cA _) (ws_9 ad cA _ _ _) eu9 d_Xt_copyRow_35 g8 rfl ?_
  obtain ⟨-, e2⟩ := rt_inv h
  exact ret _ _ _ e2 d_Xt_copyRow_36
theorem vc_Xt_Xt_copyRow {p : Program} {l : Launch} {e : Env} {fr rc rs rl : Nat} {s : State} {m : MethodId} {args : Array Value} {below : List Frame} {meth : Method} {c : Code} {cells slots : Nat} {Q : State → Prop} {A : Nat → Prop} {cc : ByteArray} {nL : Nat} {dC : Nat → ClassId} {dI : Nat → Nat → Nat} {cA : ClassId} {ad : Nat → Nat} {pc q : Nat} {lo : List (Option Value)} {rest : List Value} {u w : Mem} {r : Int32} {N : Nat} {b0 b1 : Int32} (h : f_Xt_copyRow N b0 b1 u = some (r, w)) (hfr : 0 + 1 ≤ fr) (hrl : 8 + (3 + 11) + 0 ≤ rl) (hrm : (rest.map fun v => v.category).sum ≤ 8) (hd : decode cc pc = .ok (.invokevirtual 33, 3)) (hq : pc + 3 = q) (k : VJ p l e fr rc rs rl s m args below meth c cells slots Q A cc nL R_Xt (dC, dI) cA (wA ad cA) q lo rest w) : VJ p l e fr rc rs rl s m args below meth c cells slots Q A cc nL R_Xt (dC, dI) cA (wA ad cA) pc lo (.int b1 :: .int b0 :: .ref (ad 6) :: rest) u :=
  v_callVV (As := [.int b0, .int b1]) (rest := rest) (fun sz => c_Xt_copyRow l dC dI ad cA sz N b0 b1 u r w h) tw_164 tw_166 tw_2 6 (wA_6 ad cA u) rfl rfl tw_167 tw_26 2 rfl (by decide +kernel) hfr hrl rfl hrm hd hq (fun w1 hE => by subst hE; exact k)
theorem d_Xt_insert_0 : decode b_Xt_insert 0 = .ok (.aload_n 0, 1) := by decide +kernel
theorem d_Xt_insert_1 : decode b_Xt_insert 1 = .ok (.getfield 21, 3) := by decide +kernel
theorem d_Xt_insert_4 : decode b_Xt_insert 4 = .ok (.istore 4, 2) := by decide +kernel
theorem d_Xt_insert_6 : decode b_Xt_insert 6 = .ok (.iload 4, 2) := by decide +kernel
theorem d_Xt_insert_8 : decode b_Xt_insert 8 = .ok (.ifCond .le 32, 3) := by decide +kernel
theorem d_Xt_insert_11 : decode b_Xt_insert 11 = .ok (.aload_n 0, 1) := by decide +kernel
theorem d_Xt_insert_12 : decode b_Xt_insert 12 = .ok (.getfield 15, 3) := by decide +kernel
theorem d_Xt_insert_15 : decode b_Xt_insert 15 = .ok (.iload 4, 2) := by decide +kernel
theorem d_Xt_insert_17 : decode b_Xt_insert 17 = .ok (.iconst 1, 1) := by decide +kernel
theorem d_Xt_insert_18 : decode b_Xt_insert 18 = .ok (.isub, 1) := by decide +kernel
theorem d_Xt_insert_19 : decode b_Xt_insert 19 = .ok (.iaload, 1) := by decide +kernel
theorem d_Xt_insert_20 : decode b_Xt_insert 20 = .ok (.iload_n 2, 1) := by decide +kernel
theorem d_Xt_insert_21 : decode b_Xt_insert 21 = .ok (.if_icmp .le 19, 3) := by decide +kernel
theorem d_Xt_insert_24 : decode b_Xt_insert 24 = .ok (.aload_n 0, 1) := by decide +kernel
theorem d_Xt_insert_25 : decode b_Xt_insert 25 = .ok (.iload 4, 2) := by decide +kernel
theorem d_Xt_insert_27 : decode b_Xt_insert 27 = .ok (.iconst 1, 1) := by decide +kernel
theorem d_Xt_insert_28 : decode b_Xt_insert 28 = .ok (.isub, 1) := by decide +kernel
theorem d_Xt_insert_29 : decode b_Xt_insert 29 = .ok (.iload 4, 2) := by decide +kernel
theorem d_Xt_insert_31 : decode b_Xt_insert 31 = .ok (.invokevirtual 33, 3) := by decide +kernel
theorem d_Xt_insert_34 : decode b_Xt_insert 34 = .ok (.iinc 4 (-1), 3) := by decide +kernel
theorem d_Xt_insert_37 : decode b_Xt_insert 37 = .ok (.goto (-31), 3) := by decide +kernel
theorem d_Xt_insert_40 : decode b_Xt_insert 40 = .ok (.aload_n 0, 1) := by decide +kernel
theorem d_Xt_insert_41 : decode b_Xt_insert 41 = .ok (.getfield 11, 3) := by decide +kernel
theorem d_Xt_insert_44 : decode b_Xt_insert 44 = .ok (.iload 4, 2) := by decide +kernel
theorem d_Xt_insert_46 : decode b_Xt_insert 46 = .ok (.iload_n 1, 1) := by decide +kernel
theorem d_Xt_insert_47 : decode b_Xt_insert 47 = .ok (.iastore, 1) := by decide +kernel
theorem d_Xt_insert_48 : decode b_Xt_insert 48 = .ok (.aload_n 0, 1) := by decide +kernel
theorem d_Xt_insert_49 : decode b_Xt_insert 49 = .ok (.getfield 15, 3) := by decide +kernel
theorem d_Xt_insert_52 : decode b_Xt_insert 52 = .ok (.iload 4, 2) := by decide +kernel
theorem d_Xt_insert_54 : decode b_Xt_insert 54 = .ok (.iload_n 2, 1) := by decide +kernel
theorem d_Xt_insert_55 : decode b_Xt_insert 55 = .ok (.iastore, 1) := by decide +kernel
theorem d_Xt_insert_56 : decode b_Xt_insert 56 = .ok (.aload_n 0, 1) := by decide +kernel
theorem d_Xt_insert_57 : decode b_Xt_insert 57 = .ok (.getfield 18, 3) := by decide +kernel
theorem d_Xt_insert_60 : decode b_Xt_insert 60 = .ok (.iload 4, 2) := by decide +kernel
theorem d_Xt_insert_62 : decode b_Xt_insert 62 = .ok (.iload_n 3, 1) := by decide +kernel
theorem d_Xt_insert_63 : decode b_Xt_insert 63 = .ok (.iastore, 1) := by decide +kernel
theorem d_Xt_insert_64 : decode b_Xt_insert 64 = .ok (.aload_n 0, 1) := by decide +kernel
theorem d_Xt_insert_65 : decode b_Xt_insert 65 = .ok (.dup, 1) := by decide +kernel
theorem d_Xt_insert_66 : decode b_Xt_insert 66 = .ok (.getfield 21, 3) := by decide +kernel
theorem d_Xt_insert_69 : decode b_Xt_insert 69 = .ok (.iconst 1, 1) := by decide +kernel
theorem d_Xt_insert_70 : decode b_Xt_insert 70 = .ok (.iadd, 1) := by decide +kernel
theorem d_Xt_insert_71 : decode b_Xt_insert 71 = .ok (.putfield 21, 3) := by decide +kernel
theorem d_Xt_insert_74 : decode b_Xt_insert 74 = .ok (.return_, 1) := by decide +kernel
set_option maxHeartbeats 4000000 in
set_option maxRecDepth 100000 in
theorem c_Xt_insert (l : Launch) (dC : Nat → ClassId) (dI : Nat → Nat → Nat) (ad : Nat → Nat) (cA : ClassId) (sz : Nat) (N : Nat) (a1 a2 a3 : Int32) (u : Mem) (r : Int32) (w : Mem) (h : f_Xt_insert N a1 a2 a3 u = some (r, w)) : CtV l y_Xt_insert (Cond.code y_Xt_insert b_Xt_insert 5 none :: lw_gd) 1 22 (dC, dI) cA [.ref (ad 6), .int a1, .int a2, .int a3] (wA ad cA) u sz (fun w1 => w1 = w) := by
  refine v_metV (own := R_Xt) [some (.ref (ad 6)), some (.int a1), some (.int a2), some (.int a3), none] rfl (by decide) (Nat.le_of_ble_eq_true rfl) rfl rfl ?_
  intro p e s m args below meth c A Q ret
  unfold f_Xt_insert at h
  refine v_aload_n d_Xt_insert_0 rfl rfl ?_
  refine vg_Xt_size d_Xt_insert_1 rfl ?_
  refine v_istore (lo' := [_, _, _, _, _]) d_Xt_insert_4 rfl (by decide) rfl ?_
  have L6 : ∀ (κ : Int32 → Int32 → Int32 → Int32 → Mem → Rs), (∀ (x12 x13 x14 x15 : Int32) (u16 : Mem), κ x12 x13 x14 x15 u16 = some (r, w) → VJ p l e 1 0 0 22 s m args below meth c 0 0 Q A b_Xt_insert 5 R_Xt (dC, dI) cA (wA ad cA) 40 [some (.ref (ad 6)), some (.int x12), some (.int x13), some (.int x14), some (.int x15)] [] u16) → ∀ (n : Nat) (x1 x2 x3 x4 : Int32) (u5 : Mem), k_Xt_insert_6 N κ n x1 x2 x3 x4 u5 = some (r, w) → VJ p l e 1 0 0 22 s m args below meth c 0 0 Q A b_Xt_insert 5 R_Xt (dC, dI) cA (wA ad cA) 6 [some (.ref (ad 6)), some (.int x1), some (.int x2), some (.int x3), some (.int x4)] [] u5 := by
    intro κ hκ n
    induction n with
    | zero =>
      intro x1 x2 x3 x4 u5 h
      exact no_ns h
    | succ n ih =>
      intro x1 x2 x3 x4 u5 h
      unfold k_Xt_insert_6 at h
      refine v_iload d_Xt_insert_6 rfl rfl ?_
      refine v_if_le 40 d_Xt_insert_8 (by decide) rfl (fun c11 => ?_) (fun c11 => ?_)
      · replace h := (if_pos c11).symm.trans h
        exact hκ _ _ _ _ _ h
      · replace h := (if_neg c11).symm.trans h
        refine v_aload_n d_Xt_insert_11 rfl rfl ?_
        refine vg_Xt_objects d_Xt_insert_12 rfl ?_
        refine v_iload d_Xt_insert_15 rfl rfl ?_
        refine v_iconst 1 d_Xt_insert_17 (by decide) rfl ?_
        refine v_isub d_Xt_insert_18 rfl ?_
        obtain ⟨g6, h⟩ := gd_inv h
        refine v_ald 8 (wA_8 ad cA _) d_Xt_insert_19 g6 rfl ?_
        refine v_iload_n d_Xt_insert_20 rfl rfl ?_
        refine v_icmp_le 40 d_Xt_insert_21 (by decide) rfl (fun c10 => ?_) (fun c10 => ?_)
        · replace h := (if_pos c10).symm.trans h
          exact hκ _ _ _ _ _ h
        · replace h := (if_neg c10).symm.trans h
          refine v_aload_n d_Xt_insert_24 rfl rfl ?_
          refine v_iload d_Xt_insert_25 rfl rfl ?_
          refine v_iconst 1 d_Xt_insert_27 (by decide) rfl ?_
          refine v_isub d_Xt_insert_28 rfl ?_
          refine v_iload d_Xt_insert_29 rfl rfl ?_
          obtain ⟨_y7, u8, hc9, h⟩ := bd_inv h
          refine vc_Xt_Xt_copyRow hc9 (Nat.le_of_ble_eq_true rfl) (Nat.le_of_ble_eq_true rfl) (Nat.le_of_ble_eq_true rfl) d_Xt_insert_31 rfl ?_
          refine v_iinc (lo' := [_, _, _, _, _]) (-1) d_Xt_insert_34 (by decide) rfl rfl (by decide) rfl ?_
          refine v_goto 6 d_Xt_insert_37 (by decide) ?_
          exact ih _ _ _ _ _ h
  refine L6 _ (fun x12 x13 x14 x15 u16 h => ?_) N _ _ _ _ _ h
  refine v_aload_n d_Xt_insert_40 rfl rfl ?_
  refine vg_Xt_nodes d_Xt_insert_41 rfl ?_
  refine v_iload d_Xt_insert_44 rfl rfl ?_
  refine v_iload_n d_Xt_insert_46 rfl rfl ?_
  obtain ⟨g17, h⟩ := gd_inv h
  obtain ⟨u18, eu18, h⟩ := jn_inv h
  refine v_ast 7 (wA_7 ad cA _) (ws_7 ad cA _ _ _) eu18 d_Xt_insert_47 g17 rfl ?_
  refine v_aload_n d_Xt_insert_48 rfl rfl ?_
  refine vg_Xt_objects d_Xt_insert_49 rfl ?_
  refine v_iload d_Xt_insert_52 rfl rfl ?_
  refine v_iload_n d_Xt_insert_54 rfl rfl ?_
  obtain ⟨g19, h⟩ := gd_inv h
  obtain ⟨u20, eu20, h⟩ := jn_inv h
  refine v_ast 8 (wA_8 ad cA _) (ws_8 ad cA _ _ _) eu20 d_Xt_insert_55 g19 rfl ?_
  refine v_aload_n d_Xt_insert_56 rfl rfl ?_
  refine vg_Xt_stamps d_Xt_insert_57 rfl ?_
  refine v_iload d_Xt_insert_60 rfl rfl ?_
  refine v_iload_n d_Xt_insert_62 rfl rfl ?_
  obtain ⟨g21, h⟩ := gd_inv h
  obtain ⟨u22, eu22, h⟩ := jn_inv h
  refine v_ast 9 (wA_9 ad cA _) (ws_9 ad cA _ _ _) eu22 d_Xt_insert_63 g21 rfl ?_
  refine v_aload_n d_Xt_insert_64 rfl rfl ?_
  refine v_dup d_Xt_insert_65 rfl rfl ?_
  refine vg_Xt_size d_Xt_insert_66 rfl ?_
  refine v_iconst 1 d_Xt_insert_69 (by decide) rfl ?_
  refine v_iadd d_Xt_insert_70 rfl ?_
  obtain ⟨u23, eu23, h⟩ := jn_inv h
  refine vp_Xt_size eu23 d_Xt_insert_71 rfl ?_
  obtain ⟨-, e2⟩ := rt_inv h
  exact ret _ _ _ e2 d_Xt_insert_74
theorem vc_Xt_Xt_insert {p : Program} {l : Launch} {e : Env} {fr rc rs rl : Nat} {s : State} {m : MethodId} {args : Array Value} {below : List Frame} {meth : Method} {c : Code} {cells slots : Nat} {Q : State → Prop} {A : Nat → Prop} {cc : ByteArray} {nL : Nat} {dC : Nat → ClassId} {dI : Nat → Nat → Nat} {cA : ClassId} {ad : Nat → Nat} {pc q : Nat} {lo : List (Option Value)} {rest : List Value} {u w : Mem} {r : Int32} {N : Nat} {b0 b1 b2 : Int32} (h : f_Xt_insert N b0 b1 b2 u = some (r, w)) (hfr : 1 + 1 ≤ fr) (hrl : 8 + (5 + 11) + 22 ≤ rl) (hrm : (rest.map fun v => v.category).sum ≤ 8) (hd : decode cc pc = .ok (.invokevirtual 29, 3)) (hq : pc + 3 = q) (k : VJ p l e fr rc rs rl s m args below meth c cells slots Q A cc nL R_Xt (dC, dI) cA (wA ad cA) q lo rest w) : VJ p l e fr rc rs rl s m args below meth c cells slots Q A cc nL R_Xt (dC, dI) cA (wA ad cA) pc lo (.int b2 :: .int b1 :: .int b0 :: .ref (ad 6) :: rest) u :=
  v_callVV (As := [.int b0, .int b1, .int b2]) (rest := rest) (fun sz => c_Xt_insert l dC dI ad cA sz N b0 b1 b2 u r w h) tw_160 tw_162 tw_1 6 (wA_6 ad cA u) rfl rfl tw_163 tw_26 3 rfl (by decide +kernel) hfr hrl rfl hrm hd hq (fun w1 hE => by subst hE; exact k)
theorem d_Xt_put_0 : decode b_Xt_put 0 = .ok (.aload_n 0, 1) := by decide +kernel
theorem d_Xt_put_1 : decode b_Xt_put 1 = .ok (.iload_n 1, 1) := by decide +kernel
theorem d_Xt_put_2 : decode b_Xt_put 2 = .ok (.iload_n 2, 1) := by decide +kernel
theorem d_Xt_put_3 : decode b_Xt_put 3 = .ok (.invokevirtual 25, 3) := by decide +kernel
theorem d_Xt_put_6 : decode b_Xt_put 6 = .ok (.istore 4, 2) := by decide +kernel
theorem d_Xt_put_8 : decode b_Xt_put 8 = .ok (.iload 4, 2) := by decide +kernel
theorem d_Xt_put_10 : decode b_Xt_put 10 = .ok (.iconst (-1), 1) := by decide +kernel
theorem d_Xt_put_11 : decode b_Xt_put 11 = .ok (.if_icmp .eq 14, 3) := by decide +kernel
theorem d_Xt_put_14 : decode b_Xt_put 14 = .ok (.aload_n 0, 1) := by decide +kernel
theorem d_Xt_put_15 : decode b_Xt_put 15 = .ok (.getfield 18, 3) := by decide +kernel
theorem d_Xt_put_18 : decode b_Xt_put 18 = .ok (.iload 4, 2) := by decide +kernel
theorem d_Xt_put_20 : decode b_Xt_put 20 = .ok (.iload_n 3, 1) := by decide +kernel
theorem d_Xt_put_21 : decode b_Xt_put 21 = .ok (.iastore, 1) := by decide +kernel
theorem d_Xt_put_22 : decode b_Xt_put 22 = .ok (.goto 19, 3) := by decide +kernel
theorem d_Xt_put_25 : decode b_Xt_put 25 = .ok (.aload_n 0, 1) := by decide +kernel
theorem d_Xt_put_26 : decode b_Xt_put 26 = .ok (.getfield 21, 3) := by decide +kernel
theorem d_Xt_put_29 : decode b_Xt_put 29 = .ok (.bipush 105, 2) := by decide +kernel
theorem d_Xt_put_31 : decode b_Xt_put 31 = .ok (.if_icmp .ge 10, 3) := by decide +kernel
theorem d_Xt_put_34 : decode b_Xt_put 34 = .ok (.aload_n 0, 1) := by decide +kernel
theorem d_Xt_put_35 : decode b_Xt_put 35 = .ok (.iload_n 1, 1) := by decide +kernel
theorem d_Xt_put_36 : decode b_Xt_put 36 = .ok (.iload_n 2, 1) := by decide +kernel
theorem d_Xt_put_37 : decode b_Xt_put 37 = .ok (.iload_n 3, 1) := by decide +kernel
theorem d_Xt_put_38 : decode b_Xt_put 38 = .ok (.invokevirtual 29, 3) := by decide +kernel
theorem d_Xt_put_41 : decode b_Xt_put 41 = .ok (.return_, 1) := by decide +kernel
set_option maxHeartbeats 4000000 in
set_option maxRecDepth 100000 in
theorem c_Xt_put (l : Launch) (dC : Nat → ClassId) (dI : Nat → Nat → Nat) (ad : Nat → Nat) (cA : ClassId) (sz : Nat) (N : Nat) (a1 a2 a3 : Int32) (u : Mem) (r : Int32) (w : Mem) (h : f_Xt_put N a1 a2 a3 u = some (r, w)) : CtV l y_Xt_put (Cond.code y_Xt_put b_Xt_put 5 none :: lw_gd) 2 46 (dC, dI) cA [.ref (ad 6), .int a1, .int a2, .int a3] (wA ad cA) u sz (fun w1 => w1 = w) := by
  refine v_metV (own := R_Xt) [some (.ref (ad 6)), some (.int a1), some (.int a2), some (.int a3), none] rfl (by decide) (Nat.le_of_ble_eq_true rfl) rfl rfl ?_
  intro p e s m args below meth c A Q ret
  unfold f_Xt_put at h
  refine v_aload_n d_Xt_put_0 rfl rfl ?_
  refine v_iload_n d_Xt_put_1 rfl rfl ?_
  refine v_iload_n d_Xt_put_2 rfl rfl ?_
  obtain ⟨y1, u2, hc3, h⟩ := bd_inv h
  refine vc_Xt_Xt_rowOf hc3 (Nat.le_of_ble_eq_true rfl) (Nat.le_of_ble_eq_true rfl) (Nat.le_of_ble_eq_true rfl) d_Xt_put_3 rfl ?_
  refine v_istore (lo' := [_, _, _, _, _]) d_Xt_put_6 rfl (by decide) rfl ?_
  refine v_iload d_Xt_put_8 rfl rfl ?_
  refine v_iconst (-1) d_Xt_put_10 (by decide) rfl ?_
  refine v_icmp_eq 25 d_Xt_put_11 (by decide) rfl (fun c10 => ?_) (fun c10 => ?_)
  · replace h := (if_pos c10).symm.trans h
    refine v_aload_n d_Xt_put_25 rfl rfl ?_
    refine vg_Xt_size d_Xt_put_26 rfl ?_
    refine v_bipush 105 d_Xt_put_29 (by decide) rfl ?_
    refine v_icmp_ge 41 d_Xt_put_31 (by decide) rfl (fun c7 => ?_) (fun c7 => ?_)
    · replace h := (if_pos c7).symm.trans h
      obtain ⟨-, e2⟩ := rt_inv h
      exact ret _ _ _ e2 d_Xt_put_41
    · replace h := (if_neg c7).symm.trans h
      refine v_aload_n d_Xt_put_34 rfl rfl ?_
      refine v_iload_n d_Xt_put_35 rfl rfl ?_
      refine v_iload_n d_Xt_put_36 rfl rfl ?_
      refine v_iload_n d_Xt_put_37 rfl rfl ?_
      obtain ⟨_y4, u5, hc6, h⟩ := bd_inv h
      refine vc_Xt_Xt_insert hc6 (Nat.le_of_ble_eq_true rfl) (Nat.le_of_ble_eq_true rfl) (Nat.le_of_ble_eq_true rfl) d_Xt_put_38 rfl ?_
      obtain ⟨-, e2⟩ := rt_inv h
      exact ret _ _ _ e2 d_Xt_put_41
  · replace h := (if_neg c10).symm.trans h
    refine v_aload_n d_Xt_put_14 rfl rfl ?_
    refine vg_Xt_stamps d_Xt_put_15 rfl ?_
    refine v_iload d_Xt_put_18 rfl rfl ?_
    refine v_iload_n d_Xt_put_20 rfl rfl ?_
    obtain ⟨g8, h⟩ := gd_inv h
    obtain ⟨u9, eu9, h⟩ := jn_inv h
    refine v_ast 9 (wA_9 ad cA _) (ws_9 ad cA _ _ _) eu9 d_Xt_put_21 g8 rfl ?_
    refine v_goto 41 d_Xt_put_22 (by decide) ?_
    obtain ⟨-, e2⟩ := rt_inv h
    exact ret _ _ _ e2 d_Xt_put_41
theorem vc_Sh_Xt_put {p : Program} {l : Launch} {e : Env} {fr rc rs rl : Nat} {s : State} {m : MethodId} {args : Array Value} {below : List Frame} {meth : Method} {c : Code} {cells slots : Nat} {Q : State → Prop} {A : Nat → Prop} {cc : ByteArray} {nL : Nat} {dC : Nat → ClassId} {dI : Nat → Nat → Nat} {cA : ClassId} {ad : Nat → Nat} {pc q : Nat} {lo : List (Option Value)} {rest : List Value} {u w : Mem} {r : Int32} {N : Nat} {b0 b1 b2 : Int32} (h : f_Xt_put N b0 b1 b2 u = some (r, w)) (hfr : 2 + 1 ≤ fr) (hrl : 8 + (5 + 11) + 46 ≤ rl) (hrm : (rest.map fun v => v.category).sum ≤ 8) (hd : decode cc pc = .ok (.invokevirtual 145, 3)) (hq : pc + 3 = q) (k : VJ p l e fr rc rs rl s m args below meth c cells slots Q A cc nL R_Sh (dC, dI) cA (wA ad cA) q lo rest w) : VJ p l e fr rc rs rl s m args below meth c cells slots Q A cc nL R_Sh (dC, dI) cA (wA ad cA) pc lo (.int b2 :: .int b1 :: .int b0 :: .ref (ad 6) :: rest) u :=
  v_callVV (As := [.int b0, .int b1, .int b2]) (rest := rest) (fun sz => c_Xt_put l dC dI ad cA sz N b0 b1 b2 u r w h) tw_152 tw_153 tw_154 6 (wA_6 ad cA u) rfl rfl tw_155 tw_26 3 rfl (by decide +kernel) hfr hrl rfl hrm hd hq (fun w1 hE => by subst hE; exact k)
theorem d_Hp_entryAt_0 : decode b_Hp_entryAt 0 = .ok (.aload_n 0, 1) := by decide +kernel
theorem d_Hp_entryAt_1 : decode b_Hp_entryAt 1 = .ok (.getfield 18, 3) := by decide +kernel
theorem d_Hp_entryAt_4 : decode b_Hp_entryAt 4 = .ok (.iload_n 1, 1) := by decide +kernel
theorem d_Hp_entryAt_5 : decode b_Hp_entryAt 5 = .ok (.iaload, 1) := by decide +kernel
theorem d_Hp_entryAt_6 : decode b_Hp_entryAt 6 = .ok (.ireturn, 1) := by decide +kernel
set_option maxHeartbeats 4000000 in
set_option maxRecDepth 100000 in
theorem c_Hp_entryAt (l : Launch) (dC : Nat → ClassId) (dI : Nat → Nat → Nat) (ad : Nat → Nat) (cA : ClassId) (sz : Nat) (N : Nat) (a1 : Int32) (u : Mem) (r : Int32) (w : Mem) (h : f_Hp_entryAt N a1 u = some (r, w)) : CtI l y_Hp_entryAt (Cond.code y_Hp_entryAt b_Hp_entryAt 2 (some .int) :: lw_gd) 0 0 (dC, dI) cA [.ref (ad 2), .int a1] (wA ad cA) u sz (fun v w1 => v = r ∧ w1 = w) := by
  refine v_metI (own := R_Hp) [some (.ref (ad 2)), some (.int a1)] rfl (by decide) (Nat.le_of_ble_eq_true rfl) rfl rfl (fun v u h => rfl) ?_
  intro p e s m args below meth c A Q ret
  unfold f_Hp_entryAt at h
  refine v_aload_n d_Hp_entryAt_0 rfl rfl ?_
  refine vg_Hp_entries d_Hp_entryAt_1 rfl ?_
  refine v_iload_n d_Hp_entryAt_4 rfl rfl ?_
  obtain ⟨g1, h⟩ := gd_inv h
  refine v_ald 5 (wA_5 ad cA _) d_Hp_entryAt_5 g1 rfl ?_
  obtain ⟨e1, e2⟩ := rt_inv h
  exact ret _ _ _ _ ⟨e1, e2⟩ d_Hp_entryAt_6
theorem vc_Sh_Hp_entryAt {p : Program} {l : Launch} {e : Env} {fr rc rs rl : Nat} {s : State} {m : MethodId} {args : Array Value} {below : List Frame} {meth : Method} {c : Code} {cells slots : Nat} {Q : State → Prop} {A : Nat → Prop} {cc : ByteArray} {nL : Nat} {dC : Nat → ClassId} {dI : Nat → Nat → Nat} {cA : ClassId} {ad : Nat → Nat} {pc q : Nat} {lo : List (Option Value)} {rest : List Value} {u w : Mem} {r : Int32} {N : Nat} {b0 : Int32} (h : f_Hp_entryAt N b0 u = some (r, w)) (hfr : 0 + 1 ≤ fr) (hrl : 8 + (2 + 11) + 0 ≤ rl) (hrm : (rest.map fun v => v.category).sum ≤ 8) (hd : decode cc pc = .ok (.invokevirtual 115, 3)) (hq : pc + 3 = q) (k : VJ p l e fr rc rs rl s m args below meth c cells slots Q A cc nL R_Sh (dC, dI) cA (wA ad cA) q lo (.int r :: rest) w) : VJ p l e fr rc rs rl s m args below meth c cells slots Q A cc nL R_Sh (dC, dI) cA (wA ad cA) pc lo (.int b0 :: .ref (ad 2) :: rest) u :=
  v_callVI (As := [.int b0]) (rest := rest) (fun sz => c_Hp_entryAt l dC dI ad cA sz N b0 u r w h) tw_168 tw_169 tw_170 2 (wA_2 ad cA u) rfl rfl tw_171 tw_25 1 rfl (by decide +kernel) hfr hrl rfl hrm hd hq (fun v w1 hE => by obtain ⟨rfl, rfl⟩ := hE; exact k)
theorem d_Hp_setEntry_0 : decode b_Hp_setEntry 0 = .ok (.aload_n 0, 1) := by decide +kernel
theorem d_Hp_setEntry_1 : decode b_Hp_setEntry 1 = .ok (.getfield 18, 3) := by decide +kernel
theorem d_Hp_setEntry_4 : decode b_Hp_setEntry 4 = .ok (.iload_n 1, 1) := by decide +kernel
theorem d_Hp_setEntry_5 : decode b_Hp_setEntry 5 = .ok (.iload_n 2, 1) := by decide +kernel
theorem d_Hp_setEntry_6 : decode b_Hp_setEntry 6 = .ok (.iastore, 1) := by decide +kernel
theorem d_Hp_setEntry_7 : decode b_Hp_setEntry 7 = .ok (.return_, 1) := by decide +kernel
set_option maxHeartbeats 4000000 in
set_option maxRecDepth 100000 in
theorem c_Hp_setEntry (l : Launch) (dC : Nat → ClassId) (dI : Nat → Nat → Nat) (ad : Nat → Nat) (cA : ClassId) (sz : Nat) (N : Nat) (a1 a2 : Int32) (u : Mem) (r : Int32) (w : Mem) (h : f_Hp_setEntry N a1 a2 u = some (r, w)) : CtV l y_Hp_setEntry (Cond.code y_Hp_setEntry b_Hp_setEntry 3 none :: lw_gd) 0 0 (dC, dI) cA [.ref (ad 2), .int a1, .int a2] (wA ad cA) u sz (fun w1 => w1 = w) := by
  refine v_metV (own := R_Hp) [some (.ref (ad 2)), some (.int a1), some (.int a2)] rfl (by decide) (Nat.le_of_ble_eq_true rfl) rfl rfl ?_
  intro p e s m args below meth c A Q ret
  unfold f_Hp_setEntry at h
  refine v_aload_n d_Hp_setEntry_0 rfl rfl ?_
  refine vg_Hp_entries d_Hp_setEntry_1 rfl ?_
  refine v_iload_n d_Hp_setEntry_4 rfl rfl ?_
  refine v_iload_n d_Hp_setEntry_5 rfl rfl ?_
  obtain ⟨g1, h⟩ := gd_inv h
  obtain ⟨u2, eu2, h⟩ := jn_inv h
  refine v_ast 5 (wA_5 ad cA _) (ws_5 ad cA _ _ _) eu2 d_Hp_setEntry_6 g1 rfl ?_
  obtain ⟨-, e2⟩ := rt_inv h
  exact ret _ _ _ e2 d_Hp_setEntry_7
theorem vc_Sh_Hp_setEntry {p : Program} {l : Launch} {e : Env} {fr rc rs rl : Nat} {s : State} {m : MethodId} {args : Array Value} {below : List Frame} {meth : Method} {c : Code} {cells slots : Nat} {Q : State → Prop} {A : Nat → Prop} {cc : ByteArray} {nL : Nat} {dC : Nat → ClassId} {dI : Nat → Nat → Nat} {cA : ClassId} {ad : Nat → Nat} {pc q : Nat} {lo : List (Option Value)} {rest : List Value} {u w : Mem} {r : Int32} {N : Nat} {b0 b1 : Int32} (h : f_Hp_setEntry N b0 b1 u = some (r, w)) (hfr : 0 + 1 ≤ fr) (hrl : 8 + (3 + 11) + 0 ≤ rl) (hrm : (rest.map fun v => v.category).sum ≤ 8) (hd : decode cc pc = .ok (.invokevirtual 148, 3)) (hq : pc + 3 = q) (k : VJ p l e fr rc rs rl s m args below meth c cells slots Q A cc nL R_Sh (dC, dI) cA (wA ad cA) q lo rest w) : VJ p l e fr rc rs rl s m args below meth c cells slots Q A cc nL R_Sh (dC, dI) cA (wA ad cA) pc lo (.int b1 :: .int b0 :: .ref (ad 2) :: rest) u :=
  v_callVV (As := [.int b0, .int b1]) (rest := rest) (fun sz => c_Hp_setEntry l dC dI ad cA sz N b0 b1 u r w h) tw_172 tw_173 tw_174 2 (wA_2 ad cA u) rfl rfl tw_175 tw_25 2 rfl (by decide +kernel) hfr hrl rfl hrm hd hq (fun w1 hE => by subst hE; exact k)
theorem d_Sh_lower_0 : decode b_Sh_lower 0 = .ok (.aload_n 0, 1) := by decide +kernel
theorem d_Sh_lower_1 : decode b_Sh_lower 1 = .ok (.getfield 37, 3) := by decide +kernel
theorem d_Sh_lower_4 : decode b_Sh_lower 4 = .ok (.iload_n 1, 1) := by decide +kernel
theorem d_Sh_lower_5 : decode b_Sh_lower 5 = .ok (.aload_n 0, 1) := by decide +kernel
theorem d_Sh_lower_6 : decode b_Sh_lower 6 = .ok (.getfield 37, 3) := by decide +kernel
theorem d_Sh_lower_9 : decode b_Sh_lower 9 = .ok (.iload_n 1, 1) := by decide +kernel
theorem d_Sh_lower_10 : decode b_Sh_lower 10 = .ok (.iaload, 1) := by decide +kernel
theorem d_Sh_lower_11 : decode b_Sh_lower 11 = .ok (.iload_n 2, 1) := by decide +kernel
theorem d_Sh_lower_12 : decode b_Sh_lower 12 = .ok (.invokestatic 125, 3) := by decide +kernel
theorem d_Sh_lower_15 : decode b_Sh_lower 15 = .ok (.iastore, 1) := by decide +kernel
theorem d_Sh_lower_16 : decode b_Sh_lower 16 = .ok (.return_, 1) := by decide +kernel
set_option maxHeartbeats 4000000 in
set_option maxRecDepth 100000 in
theorem c_Sh_lower (l : Launch) (dC : Nat → ClassId) (dI : Nat → Nat → Nat) (ad : Nat → Nat) (cA : ClassId) (sz : Nat) (N : Nat) (a1 a2 : Int32) (u : Mem) (r : Int32) (w : Mem) (h : f_Sh_lower N a1 a2 u = some (r, w)) : CtV l y_Sh_lower (Cond.code y_Sh_lower b_Sh_lower 3 none :: lw_gd) 1 21 (dC, dI) cA [.ref (ad 0), .int a1, .int a2] (wA ad cA) u sz (fun w1 => w1 = w) := by
  refine v_metV (own := R_Sh) [some (.ref (ad 0)), some (.int a1), some (.int a2)] rfl (by decide) (Nat.le_of_ble_eq_true rfl) rfl rfl ?_
  intro p e s m args below meth c A Q ret
  unfold f_Sh_lower at h
  refine v_aload_n d_Sh_lower_0 rfl rfl ?_
  refine vg_Sh_lows d_Sh_lower_1 rfl ?_
  refine v_iload_n d_Sh_lower_4 rfl rfl ?_
  refine v_aload_n d_Sh_lower_5 rfl rfl ?_
  refine vg_Sh_lows d_Sh_lower_6 rfl ?_
  refine v_iload_n d_Sh_lower_9 rfl rfl ?_
  obtain ⟨g1, h⟩ := gd_inv h
  refine v_ald 13 (wA_13 ad cA _) d_Sh_lower_10 g1 rfl ?_
  refine v_iload_n d_Sh_lower_11 rfl rfl ?_
  refine v_mmin tw_180 tw_181 tw_29 tw_182 (Nat.le_of_ble_eq_true rfl) (Nat.le_of_ble_eq_true rfl) d_Sh_lower_12 rfl ?_
  obtain ⟨g2, h⟩ := gd_inv h
  obtain ⟨u3, eu3, h⟩ := jn_inv h
  refine v_ast 13 (wA_13 ad cA _) (ws_13 ad cA _ _ _) eu3 d_Sh_lower_15 g2 rfl ?_
  obtain ⟨-, e2⟩ := rt_inv h
  exact ret _ _ _ e2 d_Sh_lower_16
theorem vc_Sh_Sh_lower {p : Program} {l : Launch} {e : Env} {fr rc rs rl : Nat} {s : State} {m : MethodId} {args : Array Value} {below : List Frame} {meth : Method} {c : Code} {cells slots : Nat} {Q : State → Prop} {A : Nat → Prop} {cc : ByteArray} {nL : Nat} {dC : Nat → ClassId} {dI : Nat → Nat → Nat} {cA : ClassId} {ad : Nat → Nat} {pc q : Nat} {lo : List (Option Value)} {rest : List Value} {u w : Mem} {r : Int32} {N : Nat} {b0 b1 : Int32} (h : f_Sh_lower N b0 b1 u = some (r, w)) (hfr : 1 + 1 ≤ fr) (hrl : 8 + (3 + 11) + 21 ≤ rl) (hrm : (rest.map fun v => v.category).sum ≤ 8) (hd : decode cc pc = .ok (.invokevirtual 151, 3)) (hq : pc + 3 = q) (k : VJ p l e fr rc rs rl s m args below meth c cells slots Q A cc nL R_Sh (dC, dI) cA (wA ad cA) q lo rest w) : VJ p l e fr rc rs rl s m args below meth c cells slots Q A cc nL R_Sh (dC, dI) cA (wA ad cA) pc lo (.int b1 :: .int b0 :: .ref (ad 0) :: rest) u :=
  v_callVV (As := [.int b0, .int b1]) (rest := rest) (fun sz => c_Sh_lower l dC dI ad cA sz N b0 b1 u r w h) tw_176 tw_178 tw_3 0 (wA_0 ad cA u) rfl rfl tw_179 tw_24 2 rfl (by decide +kernel) hfr hrl rfl hrm hd hq (fun w1 hE => by subst hE; exact k)
theorem d_Sh_raise_0 : decode b_Sh_raise 0 = .ok (.aload_n 0, 1) := by decide +kernel
theorem d_Sh_raise_1 : decode b_Sh_raise 1 = .ok (.getfield 16, 3) := by decide +kernel
theorem d_Sh_raise_4 : decode b_Sh_raise 4 = .ok (.iload_n 1, 1) := by decide +kernel
theorem d_Sh_raise_5 : decode b_Sh_raise 5 = .ok (.invokevirtual 115, 3) := by decide +kernel
theorem d_Sh_raise_8 : decode b_Sh_raise 8 = .ok (.istore_n 3, 1) := by decide +kernel
theorem d_Sh_raise_9 : decode b_Sh_raise 9 = .ok (.iload_n 2, 1) := by decide +kernel
theorem d_Sh_raise_10 : decode b_Sh_raise 10 = .ok (.iload_n 3, 1) := by decide +kernel
theorem d_Sh_raise_11 : decode b_Sh_raise 11 = .ok (.if_icmp .le 21, 3) := by decide +kernel
theorem d_Sh_raise_14 : decode b_Sh_raise 14 = .ok (.aload_n 0, 1) := by decide +kernel
theorem d_Sh_raise_15 : decode b_Sh_raise 15 = .ok (.iload_n 1, 1) := by decide +kernel
theorem d_Sh_raise_16 : decode b_Sh_raise 16 = .ok (.invokestatic 77, 3) := by decide +kernel
theorem d_Sh_raise_19 : decode b_Sh_raise 19 = .ok (.iload_n 3, 1) := by decide +kernel
theorem d_Sh_raise_20 : decode b_Sh_raise 20 = .ok (.invokevirtual 151, 3) := by decide +kernel
theorem d_Sh_raise_23 : decode b_Sh_raise 23 = .ok (.aload_n 0, 1) := by decide +kernel
theorem d_Sh_raise_24 : decode b_Sh_raise 24 = .ok (.getfield 16, 3) := by decide +kernel
theorem d_Sh_raise_27 : decode b_Sh_raise 27 = .ok (.iload_n 1, 1) := by decide +kernel
theorem d_Sh_raise_28 : decode b_Sh_raise 28 = .ok (.iload_n 2, 1) := by decide +kernel
theorem d_Sh_raise_29 : decode b_Sh_raise 29 = .ok (.invokevirtual 148, 3) := by decide +kernel
theorem d_Sh_raise_32 : decode b_Sh_raise 32 = .ok (.return_, 1) := by decide +kernel
set_option maxHeartbeats 4000000 in
set_option maxRecDepth 100000 in
theorem c_Sh_raise (l : Launch) (dC : Nat → ClassId) (dI : Nat → Nat → Nat) (ad : Nat → Nat) (cA : ClassId) (sz : Nat) (N : Nat) (a1 a2 : Int32) (u : Mem) (r : Int32) (w : Mem) (h : f_Sh_raise N a1 a2 u = some (r, w)) : CtV l y_Sh_raise (Cond.code y_Sh_raise b_Sh_raise 4 none :: lw_gd) 2 43 (dC, dI) cA [.ref (ad 0), .int a1, .int a2] (wA ad cA) u sz (fun w1 => w1 = w) := by
  refine v_metV (own := R_Sh) [some (.ref (ad 0)), some (.int a1), some (.int a2), none] rfl (by decide) (Nat.le_of_ble_eq_true rfl) rfl rfl ?_
  intro p e s m args below meth c A Q ret
  unfold f_Sh_raise at h
  refine v_aload_n d_Sh_raise_0 rfl rfl ?_
  refine vg_Sh_heap d_Sh_raise_1 rfl ?_
  refine v_iload_n d_Sh_raise_4 rfl rfl ?_
  obtain ⟨y1, u2, hc3, h⟩ := bd_inv h
  refine vc_Sh_Hp_entryAt hc3 (Nat.le_of_ble_eq_true rfl) (Nat.le_of_ble_eq_true rfl) (Nat.le_of_ble_eq_true rfl) d_Sh_raise_5 rfl ?_
  refine v_istore_n (lo' := [_, _, _, _]) d_Sh_raise_8 rfl (by decide) rfl ?_
  refine v_iload_n d_Sh_raise_9 rfl rfl ?_
  refine v_iload_n d_Sh_raise_10 rfl rfl ?_
  refine v_icmp_le 32 d_Sh_raise_11 (by decide) rfl (fun c13 => ?_) (fun c13 => ?_)
  · replace h := (if_pos c13).symm.trans h
    obtain ⟨-, e2⟩ := rt_inv h
    exact ret _ _ _ e2 d_Sh_raise_32
  · replace h := (if_neg c13).symm.trans h
    refine v_aload_n d_Sh_raise_14 rfl rfl ?_
    refine v_iload_n d_Sh_raise_15 rfl rfl ?_
    obtain ⟨y4, u5, hc6, h⟩ := bd_inv h
    refine vc_Sh_Hp_nodeOf hc6 (Nat.le_of_ble_eq_true rfl) (Nat.le_of_ble_eq_true rfl) (Nat.le_of_ble_eq_true rfl) d_Sh_raise_16 rfl ?_
    refine v_iload_n d_Sh_raise_19 rfl rfl ?_
    obtain ⟨_y7, u8, hc9, h⟩ := bd_inv h
    refine vc_Sh_Sh_lower hc9 (Nat.le_of_ble_eq_true rfl) (Nat.le_of_ble_eq_true rfl) (Nat.le_of_ble_eq_true rfl) d_Sh_raise_20 rfl ?_
    refine v_aload_n d_Sh_raise_23 rfl rfl ?_
    refine vg_Sh_heap d_Sh_raise_24 rfl ?_
    refine v_iload_n d_Sh_raise_27 rfl rfl ?_
    refine v_iload_n d_Sh_raise_28 rfl rfl ?_
    obtain ⟨_y10, u11, hc12, h⟩ := bd_inv h
    refine vc_Sh_Hp_setEntry hc12 (Nat.le_of_ble_eq_true rfl) (Nat.le_of_ble_eq_true rfl) (Nat.le_of_ble_eq_true rfl) d_Sh_raise_29 rfl ?_
    obtain ⟨-, e2⟩ := rt_inv h
    exact ret _ _ _ e2 d_Sh_raise_32
theorem vc_Sh_Sh_raise {p : Program} {l : Launch} {e : Env} {fr rc rs rl : Nat} {s : State} {m : MethodId} {args : Array Value} {below : List Frame} {meth : Method} {c : Code} {cells slots : Nat} {Q : State → Prop} {A : Nat → Prop} {cc : ByteArray} {nL : Nat} {dC : Nat → ClassId} {dI : Nat → Nat → Nat} {cA : ClassId} {ad : Nat → Nat} {pc q : Nat} {lo : List (Option Value)} {rest : List Value} {u w : Mem} {r : Int32} {N : Nat} {b0 b1 : Int32} (h : f_Sh_raise N b0 b1 u = some (r, w)) (hfr : 2 + 1 ≤ fr) (hrl : 8 + (4 + 11) + 43 ≤ rl) (hrm : (rest.map fun v => v.category).sum ≤ 8) (hd : decode cc pc = .ok (.invokevirtual 118, 3)) (hq : pc + 3 = q) (k : VJ p l e fr rc rs rl s m args below meth c cells slots Q A cc nL R_Sh (dC, dI) cA (wA ad cA) q lo rest w) : VJ p l e fr rc rs rl s m args below meth c cells slots Q A cc nL R_Sh (dC, dI) cA (wA ad cA) pc lo (.int b1 :: .int b0 :: .ref (ad 0) :: rest) u :=
  v_callVV (As := [.int b0, .int b1]) (rest := rest) (fun sz => c_Sh_raise l dC dI ad cA sz N b0 b1 u r w h) tw_183 tw_185 tw_4 0 (wA_0 ad cA u) rfl rfl tw_186 tw_24 2 rfl (by decide +kernel) hfr hrl rfl hrm hd hq (fun w1 hE => by subst hE; exact k)
theorem d_Sh_carry_0 : decode b_Sh_carry 0 = .ok (.aload_n 0, 1) := by decide +kernel
theorem d_Sh_carry_1 : decode b_Sh_carry 1 = .ok (.getfield 16, 3) := by decide +kernel
theorem d_Sh_carry_4 : decode b_Sh_carry 4 = .ok (.iload_n 1, 1) := by decide +kernel
theorem d_Sh_carry_5 : decode b_Sh_carry 5 = .ok (.invokevirtual 70, 3) := by decide +kernel
theorem d_Sh_carry_8 : decode b_Sh_carry 8 = .ok (.istore 4, 2) := by decide +kernel
theorem d_Sh_carry_10 : decode b_Sh_carry 10 = .ok (.iload_n 2, 1) := by decide +kernel
theorem d_Sh_carry_11 : decode b_Sh_carry 11 = .ok (.iload_n 3, 1) := by decide +kernel
theorem d_Sh_carry_12 : decode b_Sh_carry 12 = .ok (.if_icmp .eq 9, 3) := by decide +kernel
theorem d_Sh_carry_15 : decode b_Sh_carry 15 = .ok (.iload 4, 2) := by decide +kernel
theorem d_Sh_carry_17 : decode b_Sh_carry 17 = .ok (.iconst (-1), 1) := by decide +kernel
theorem d_Sh_carry_18 : decode b_Sh_carry 18 = .ok (.if_icmp .ne 4, 3) := by decide +kernel
theorem d_Sh_carry_21 : decode b_Sh_carry 21 = .ok (.return_, 1) := by decide +kernel
theorem d_Sh_carry_22 : decode b_Sh_carry 22 = .ok (.iload 4, 2) := by decide +kernel
theorem d_Sh_carry_24 : decode b_Sh_carry 24 = .ok (.invokestatic 77, 3) := by decide +kernel
theorem d_Sh_carry_27 : decode b_Sh_carry 27 = .ok (.istore 5, 2) := by decide +kernel
theorem d_Sh_carry_29 : decode b_Sh_carry 29 = .ok (.iload_n 3, 1) := by decide +kernel
theorem d_Sh_carry_30 : decode b_Sh_carry 30 = .ok (.iload 5, 2) := by decide +kernel
theorem d_Sh_carry_32 : decode b_Sh_carry 32 = .ok (.if_icmp .eq 16, 3) := by decide +kernel
theorem d_Sh_carry_35 : decode b_Sh_carry 35 = .ok (.aload_n 0, 1) := by decide +kernel
theorem d_Sh_carry_36 : decode b_Sh_carry 36 = .ok (.getfield 23, 3) := by decide +kernel
theorem d_Sh_carry_39 : decode b_Sh_carry 39 = .ok (.iload_n 3, 1) := by decide +kernel
theorem d_Sh_carry_40 : decode b_Sh_carry 40 = .ok (.iload_n 1, 1) := by decide +kernel
theorem d_Sh_carry_41 : decode b_Sh_carry 41 = .ok (.aload_n 0, 1) := by decide +kernel
theorem d_Sh_carry_42 : decode b_Sh_carry 42 = .ok (.getfield 56, 3) := by decide +kernel
theorem d_Sh_carry_45 : decode b_Sh_carry 45 = .ok (.invokevirtual 145, 3) := by decide +kernel
theorem d_Sh_carry_48 : decode b_Sh_carry 48 = .ok (.aload_n 0, 1) := by decide +kernel
theorem d_Sh_carry_49 : decode b_Sh_carry 49 = .ok (.getfield 16, 3) := by decide +kernel
theorem d_Sh_carry_52 : decode b_Sh_carry 52 = .ok (.iload 4, 2) := by decide +kernel
theorem d_Sh_carry_54 : decode b_Sh_carry 54 = .ok (.invokevirtual 115, 3) := by decide +kernel
theorem d_Sh_carry_57 : decode b_Sh_carry 57 = .ok (.iconst (-1), 1) := by decide +kernel
theorem d_Sh_carry_58 : decode b_Sh_carry 58 = .ok (.if_icmp .ne 29, 3) := by decide +kernel
theorem d_Sh_carry_61 : decode b_Sh_carry 61 = .ok (.aload_n 0, 1) := by decide +kernel
theorem d_Sh_carry_62 : decode b_Sh_carry 62 = .ok (.getfield 16, 3) := by decide +kernel
theorem d_Sh_carry_65 : decode b_Sh_carry 65 = .ok (.iload 4, 2) := by decide +kernel
theorem d_Sh_carry_67 : decode b_Sh_carry 67 = .ok (.aload_n 0, 1) := by decide +kernel
theorem d_Sh_carry_68 : decode b_Sh_carry 68 = .ok (.getfield 56, 3) := by decide +kernel
theorem d_Sh_carry_71 : decode b_Sh_carry 71 = .ok (.invokevirtual 148, 3) := by decide +kernel
theorem d_Sh_carry_74 : decode b_Sh_carry 74 = .ok (.aload_n 0, 1) := by decide +kernel
theorem d_Sh_carry_75 : decode b_Sh_carry 75 = .ok (.iload 5, 2) := by decide +kernel
theorem d_Sh_carry_77 : decode b_Sh_carry 77 = .ok (.aload_n 0, 1) := by decide +kernel
theorem d_Sh_carry_78 : decode b_Sh_carry 78 = .ok (.getfield 130, 3) := by decide +kernel
theorem d_Sh_carry_81 : decode b_Sh_carry 81 = .ok (.invokevirtual 151, 3) := by decide +kernel
theorem d_Sh_carry_84 : decode b_Sh_carry 84 = .ok (.goto 13, 3) := by decide +kernel
theorem d_Sh_carry_87 : decode b_Sh_carry 87 = .ok (.aload_n 0, 1) := by decide +kernel
theorem d_Sh_carry_88 : decode b_Sh_carry 88 = .ok (.iload 4, 2) := by decide +kernel
theorem d_Sh_carry_90 : decode b_Sh_carry 90 = .ok (.aload_n 0, 1) := by decide +kernel
theorem d_Sh_carry_91 : decode b_Sh_carry 91 = .ok (.getfield 56, 3) := by decide +kernel
theorem d_Sh_carry_94 : decode b_Sh_carry 94 = .ok (.invokevirtual 118, 3) := by decide +kernel
theorem d_Sh_carry_97 : decode b_Sh_carry 97 = .ok (.return_, 1) := by decide +kernel
set_option maxHeartbeats 4000000 in
set_option maxRecDepth 100000 in
theorem c_Sh_carry (l : Launch) (dC : Nat → ClassId) (dI : Nat → Nat → Nat) (ad : Nat → Nat) (cA : ClassId) (sz : Nat) (N : Nat) (a1 a2 a3 : Int32) (u : Mem) (r : Int32) (w : Mem) (h : f_Sh_carry N a1 a2 a3 u = some (r, w)) : CtV l y_Sh_carry (Cond.code y_Sh_carry b_Sh_carry 6 none :: lw_gd) 3 70 (dC, dI) cA [.ref (ad 0), .int a1, .int a2, .int a3] (wA ad cA) u sz (fun w1 => w1 = w) := by
  refine v_metV (own := R_Sh) [some (.ref (ad 0)), some (.int a1), some (.int a2), some (.int a3), none, none] rfl (by decide) (Nat.le_of_ble_eq_true rfl) rfl rfl ?_
  intro p e s m args below meth c A Q ret
  unfold f_Sh_carry at h
  refine v_aload_n d_Sh_carry_0 rfl rfl ?_
  refine vg_Sh_heap d_Sh_carry_1 rfl ?_
  refine v_iload_n d_Sh_carry_4 rfl rfl ?_
  obtain ⟨y1, u2, hc3, h⟩ := bd_inv h
  refine vc_Sh_Hp_slotOf hc3 (Nat.le_of_ble_eq_true rfl) (Nat.le_of_ble_eq_true rfl) (Nat.le_of_ble_eq_true rfl) d_Sh_carry_5 rfl ?_
  refine v_istore (lo' := [_, _, _, _, _, none]) d_Sh_carry_8 rfl (by decide) rfl ?_
  refine v_iload_n d_Sh_carry_10 rfl rfl ?_
  refine v_iload_n d_Sh_carry_11 rfl rfl ?_
  refine v_icmp_eq 21 d_Sh_carry_12 (by decide) rfl (fun c28 => ?_) (fun c28 => ?_)
  · replace h := (if_pos c28).symm.trans h
    obtain ⟨-, e2⟩ := rt_inv h
    exact ret _ _ _ e2 d_Sh_carry_21
  · replace h := (if_neg c28).symm.trans h
    refine v_iload d_Sh_carry_15 rfl rfl ?_
    refine v_iconst (-1) d_Sh_carry_17 (by decide) rfl ?_
    refine v_icmp_ne 22 d_Sh_carry_18 (by decide) rfl (fun c27 => ?_) (fun c27 => ?_)
    · replace h := (if_pos c27).symm.trans h
      obtain ⟨-, e2⟩ := rt_inv h
      exact ret _ _ _ e2 d_Sh_carry_21
    · replace h := (if_neg c27).symm.trans h
      refine v_iload d_Sh_carry_22 rfl rfl ?_
      obtain ⟨y4, u5, hc6, h⟩ := bd_inv h
      refine vc_Sh_Hp_nodeOf hc6 (Nat.le_of_ble_eq_true rfl) (Nat.le_of_ble_eq_true rfl) (Nat.le_of_ble_eq_true rfl) d_Sh_carry_24 rfl ?_
      refine v_istore (lo' := [_, _, _, _, _, _]) d_Sh_carry_27 rfl (by decide) rfl ?_
      refine v_iload_n d_Sh_carry_29 rfl rfl ?_
      refine v_iload d_Sh_carry_30 rfl rfl ?_
      obtain ⟨J48, eJ48, h⟩ := jn_inv h
      have V48 : ∀ (x7 x8 : Int32) (u9 : Mem), J48 x7 x8 u9 = some (r, w) → VJ p l e 3 0 0 70 s m args below meth c 0 0 Q A b_Sh_carry 6 R_Sh (dC, dI) cA (wA ad cA) 48 [some (.ref (ad 0)), none, none, none, some (.int x7), some (.int x8)] [] u9 := by
        intro x7 x8 u9 h
        rw [eJ48] at h
        refine v_aload_n d_Sh_carry_48 rfl rfl ?_
        refine vg_Sh_heap d_Sh_carry_49 rfl ?_
        refine v_iload d_Sh_carry_52 rfl rfl ?_
        obtain ⟨y10, u11, hc12, h⟩ := bd_inv h
        refine vc_Sh_Hp_entryAt hc12 (Nat.le_of_ble_eq_true rfl) (Nat.le_of_ble_eq_true rfl) (Nat.le_of_ble_eq_true rfl) d_Sh_carry_54 rfl ?_
        refine v_iconst (-1) d_Sh_carry_57 (by decide) rfl ?_
        refine v_icmp_ne 87 d_Sh_carry_58 (by decide) rfl (fun c22 => ?_) (fun c22 => ?_)
        · replace h := (if_pos c22).symm.trans h
          refine v_aload_n d_Sh_carry_61 rfl rfl ?_
          refine vg_Sh_heap d_Sh_carry_62 rfl ?_
          refine v_iload d_Sh_carry_65 rfl rfl ?_
          refine v_aload_n d_Sh_carry_67 rfl rfl ?_
          refine vg_Sh_clock d_Sh_carry_68 rfl ?_
          obtain ⟨_y13, u14, hc15, h⟩ := bd_inv h
          refine vc_Sh_Hp_setEntry hc15 (Nat.le_of_ble_eq_true rfl) (Nat.le_of_ble_eq_true rfl) (Nat.le_of_ble_eq_true rfl) d_Sh_carry_71 rfl ?_
          refine v_aload_n d_Sh_carry_74 rfl rfl ?_
          refine v_iload d_Sh_carry_75 rfl rfl ?_
          refine v_aload_n d_Sh_carry_77 rfl rfl ?_
          refine vg_Sh_threshold d_Sh_carry_78 rfl ?_
          obtain ⟨_y16, u17, hc18, h⟩ := bd_inv h
          refine vc_Sh_Sh_lower hc18 (Nat.le_of_ble_eq_true rfl) (Nat.le_of_ble_eq_true rfl) (Nat.le_of_ble_eq_true rfl) d_Sh_carry_81 rfl ?_
          refine v_goto 97 d_Sh_carry_84 (by decide) ?_
          obtain ⟨-, e2⟩ := rt_inv h
          exact ret _ _ _ e2 d_Sh_carry_97
        · replace h := (if_neg c22).symm.trans h
          refine v_aload_n d_Sh_carry_87 rfl rfl ?_
          refine v_iload d_Sh_carry_88 rfl rfl ?_
          refine v_aload_n d_Sh_carry_90 rfl rfl ?_
          refine vg_Sh_clock d_Sh_carry_91 rfl ?_
          obtain ⟨_y19, u20, hc21, h⟩ := bd_inv h
          refine vc_Sh_Sh_raise hc21 (Nat.le_of_ble_eq_true rfl) (Nat.le_of_ble_eq_true rfl) (Nat.le_of_ble_eq_true rfl) d_Sh_carry_94 rfl ?_
          obtain ⟨-, e2⟩ := rt_inv h
          exact ret _ _ _ e2 d_Sh_carry_97
      clear eJ48
      refine v_icmp_eq 48 d_Sh_carry_32 (by decide) rfl (fun c26 => ?_) (fun c26 => ?_)
      · replace h := (if_pos c26).symm.trans h
        refine v_drop 1 (lo' := [_, none, _, _, _, _]) rfl ?_
        refine v_drop 2 (lo' := [_, none, none, _, _, _]) rfl ?_
        refine v_drop 3 (lo' := [_, none, none, none, _, _]) rfl ?_
        exact V48 _ _ _ h
      · replace h := (if_neg c26).symm.trans h
        refine v_aload_n d_Sh_carry_35 rfl rfl ?_
        refine vg_Sh_exits d_Sh_carry_36 rfl ?_
        refine v_iload_n d_Sh_carry_39 rfl rfl ?_
        refine v_iload_n d_Sh_carry_40 rfl rfl ?_
        refine v_aload_n d_Sh_carry_41 rfl rfl ?_
        refine vg_Sh_clock d_Sh_carry_42 rfl ?_
        obtain ⟨_y23, u24, hc25, h⟩ := bd_inv h
        refine vc_Sh_Xt_put hc25 (Nat.le_of_ble_eq_true rfl) (Nat.le_of_ble_eq_true rfl) (Nat.le_of_ble_eq_true rfl) d_Sh_carry_45 rfl ?_
        refine v_drop 1 (lo' := [_, none, _, _, _, _]) rfl ?_
        refine v_drop 2 (lo' := [_, none, none, _, _, _]) rfl ?_
        refine v_drop 3 (lo' := [_, none, none, none, _, _]) rfl ?_
        exact V48 _ _ _ h
theorem vc_Sh_Sh_carry {p : Program} {l : Launch} {e : Env} {fr rc rs rl : Nat} {s : State} {m : MethodId} {args : Array Value} {below : List Frame} {meth : Method} {c : Code} {cells slots : Nat} {Q : State → Prop} {A : Nat → Prop} {cc : ByteArray} {nL : Nat} {dC : Nat → ClassId} {dI : Nat → Nat → Nat} {cA : ClassId} {ad : Nat → Nat} {pc q : Nat} {lo : List (Option Value)} {rest : List Value} {u w : Mem} {r : Int32} {N : Nat} {b0 b1 b2 : Int32} (h : f_Sh_carry N b0 b1 b2 u = some (r, w)) (hfr : 3 + 1 ≤ fr) (hrl : 8 + (6 + 11) + 70 ≤ rl) (hrm : (rest.map fun v => v.category).sum ≤ 8) (hd : decode cc pc = .ok (.invokevirtual 63, 3)) (hq : pc + 3 = q) (k : VJ p l e fr rc rs rl s m args below meth c cells slots Q A cc nL R_Sh (dC, dI) cA (wA ad cA) q lo rest w) : VJ p l e fr rc rs rl s m args below meth c cells slots Q A cc nL R_Sh (dC, dI) cA (wA ad cA) pc lo (.int b2 :: .int b1 :: .int b0 :: .ref (ad 0) :: rest) u :=
  v_callVV (As := [.int b0, .int b1, .int b2]) (rest := rest) (fun sz => c_Sh_carry l dC dI ad cA sz N b0 b1 b2 u r w h) tw_141 tw_143 tw_0 0 (wA_0 ad cA u) rfl rfl tw_144 tw_24 3 rfl (by decide +kernel) hfr hrl rfl hrm hd hq (fun w1 hE => by subst hE; exact k)
