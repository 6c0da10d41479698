/-! Contracts. -/
theorem d_Md_move_0 : decode b_Md_move 0 = .ok (.iload_n 1, 1) := by decide +kernel
theorem d_Md_move_1 : decode b_Md_move 1 = .ok (.iload_n 2, 1) := by decide +kernel
theorem d_Md_move_2 : decode b_Md_move 2 = .ok (.invokestatic 60, 3) := by decide +kernel
theorem d_Md_move_5 : decode b_Md_move 5 = .ok (.ifCond .eq 17, 3) := by decide +kernel
theorem d_Md_move_8 : decode b_Md_move 8 = .ok (.iload_n 3, 1) := by decide +kernel
theorem d_Md_move_9 : decode b_Md_move 9 = .ok (.iload 4, 2) := by decide +kernel
theorem d_Md_move_11 : decode b_Md_move 11 = .ok (.invokestatic 60, 3) := by decide +kernel
theorem d_Md_move_14 : decode b_Md_move 14 = .ok (.ifCond .eq 8, 3) := by decide +kernel
theorem d_Md_move_17 : decode b_Md_move 17 = .ok (.iload_n 1, 1) := by decide +kernel
theorem d_Md_move_18 : decode b_Md_move 18 = .ok (.iload_n 3, 1) := by decide +kernel
theorem d_Md_move_19 : decode b_Md_move 19 = .ok (.if_icmp .ne 5, 3) := by decide +kernel
theorem d_Md_move_22 : decode b_Md_move 22 = .ok (.iconst 0, 1) := by decide +kernel
theorem d_Md_move_23 : decode b_Md_move 23 = .ok (.ireturn, 1) := by decide +kernel
theorem d_Md_move_24 : decode b_Md_move 24 = .ok (.aload_n 0, 1) := by decide +kernel
theorem d_Md_move_25 : decode b_Md_move 25 = .ok (.dup, 1) := by decide +kernel
theorem d_Md_move_26 : decode b_Md_move 26 = .ok (.getfield 50, 3) := by decide +kernel
theorem d_Md_move_29 : decode b_Md_move 29 = .ok (.iconst 1, 1) := by decide +kernel
theorem d_Md_move_30 : decode b_Md_move 30 = .ok (.iadd, 1) := by decide +kernel
theorem d_Md_move_31 : decode b_Md_move 31 = .ok (.putfield 50, 3) := by decide +kernel
theorem d_Md_move_34 : decode b_Md_move 34 = .ok (.aload_n 0, 1) := by decide +kernel
theorem d_Md_move_35 : decode b_Md_move 35 = .ok (.getfield 19, 3) := by decide +kernel
theorem d_Md_move_38 : decode b_Md_move 38 = .ok (.iconst 3, 1) := by decide +kernel
theorem d_Md_move_39 : decode b_Md_move 39 = .ok (.iload_n 1, 1) := by decide +kernel
theorem d_Md_move_40 : decode b_Md_move 40 = .ok (.imul, 1) := by decide +kernel
theorem d_Md_move_41 : decode b_Md_move 41 = .ok (.iload_n 2, 1) := by decide +kernel
theorem d_Md_move_42 : decode b_Md_move 42 = .ok (.iadd, 1) := by decide +kernel
theorem d_Md_move_43 : decode b_Md_move 43 = .ok (.iaload, 1) := by decide +kernel
theorem d_Md_move_44 : decode b_Md_move 44 = .ok (.istore 5, 2) := by decide +kernel
theorem d_Md_move_46 : decode b_Md_move 46 = .ok (.aload_n 0, 1) := by decide +kernel
theorem d_Md_move_47 : decode b_Md_move 47 = .ok (.getfield 19, 3) := by decide +kernel
theorem d_Md_move_50 : decode b_Md_move 50 = .ok (.iconst 3, 1) := by decide +kernel
theorem d_Md_move_51 : decode b_Md_move 51 = .ok (.iload_n 3, 1) := by decide +kernel
theorem d_Md_move_52 : decode b_Md_move 52 = .ok (.imul, 1) := by decide +kernel
theorem d_Md_move_53 : decode b_Md_move 53 = .ok (.iload 4, 2) := by decide +kernel
theorem d_Md_move_55 : decode b_Md_move 55 = .ok (.iadd, 1) := by decide +kernel
theorem d_Md_move_56 : decode b_Md_move 56 = .ok (.iload 5, 2) := by decide +kernel
theorem d_Md_move_58 : decode b_Md_move 58 = .ok (.iastore, 1) := by decide +kernel
theorem d_Md_move_59 : decode b_Md_move 59 = .ok (.aload_n 0, 1) := by decide +kernel
theorem d_Md_move_60 : decode b_Md_move 60 = .ok (.iload 5, 2) := by decide +kernel
theorem d_Md_move_62 : decode b_Md_move 62 = .ok (.iload_n 3, 1) := by decide +kernel
theorem d_Md_move_63 : decode b_Md_move 63 = .ok (.invokevirtual 68, 3) := by decide +kernel
theorem d_Md_move_66 : decode b_Md_move 66 = .ok (.iconst 1, 1) := by decide +kernel
theorem d_Md_move_67 : decode b_Md_move 67 = .ok (.ireturn, 1) := by decide +kernel
set_option maxHeartbeats 4000000 in
set_option maxRecDepth 100000 in
theorem c_Md_move (l : Launch) (dC : Nat → ClassId) (dI : Nat → Nat → Nat) (ad : Nat → Nat) (cA : ClassId) (sz : Nat) (N : Nat) (a1 a2 a3 a4 : Int32) (u : Mem) (r : Int32) (w : Mem) (h : f_Md_move N a1 a2 a3 a4 u = some (r, w)) : CtI l y_Md_move (Cond.code y_Md_move b_Md_move 6 (some .boolean) :: lw_gd) 3 66 (dC, dI) cA [.ref (ad 15), .int a1, .int a2, .int a3, .int a4] (wA ad cA) u sz (fun v w1 => v = r ∧ w1 = w ∧ (v = 0 ∨ v = 1)) := by
  refine v_metI (own := R_Md) [some (.ref (ad 15)), some (.int a1), some (.int a2), some (.int a3), some (.int a4), none] rfl (by decide) (Nat.le_of_ble_eq_true rfl) rfl rfl (fun v u h => by rcases h.2.2 with h | h <;> rw [h] <;> rfl) ?_
  intro p e s m args below meth c A Q ret
  unfold f_Md_move at h
  refine v_iload_n d_Md_move_0 rfl rfl ?_
  refine v_iload_n d_Md_move_1 rfl rfl ?_
  obtain ⟨y1, u2, hc3, h⟩ := bd_inv h
  refine vc_Md_Md_isPlace hc3 (Nat.le_of_ble_eq_true rfl) (Nat.le_of_ble_eq_true rfl) (Nat.le_of_ble_eq_true rfl) d_Md_move_2 rfl ?_
  refine v_if_eq 22 d_Md_move_5 (by decide) rfl (fun c16 => ?_) (fun c16 => ?_)
  · replace h := (if_pos c16).symm.trans h
    refine v_iconst 0 d_Md_move_22 (by decide) rfl ?_
    obtain ⟨e1, e2⟩ := rt_inv h
    exact ret _ _ _ _ ⟨e1, e2, Or.inl rfl⟩ d_Md_move_23
  · replace h := (if_neg c16).symm.trans h
    refine v_iload_n d_Md_move_8 rfl rfl ?_
    refine v_iload d_Md_move_9 rfl rfl ?_
    obtain ⟨y4, u5, hc6, h⟩ := bd_inv h
    refine vc_Md_Md_isPlace hc6 (Nat.le_of_ble_eq_true rfl) (Nat.le_of_ble_eq_true rfl) (Nat.le_of_ble_eq_true rfl) d_Md_move_11 rfl ?_
    refine v_if_eq 22 d_Md_move_14 (by decide) rfl (fun c15 => ?_) (fun c15 => ?_)
    · replace h := (if_pos c15).symm.trans h
      refine v_iconst 0 d_Md_move_22 (by decide) rfl ?_
      obtain ⟨e1, e2⟩ := rt_inv h
      exact ret _ _ _ _ ⟨e1, e2, Or.inl rfl⟩ d_Md_move_23
    · replace h := (if_neg c15).symm.trans h
      refine v_iload_n d_Md_move_17 rfl rfl ?_
      refine v_iload_n d_Md_move_18 rfl rfl ?_
      refine v_icmp_ne 24 d_Md_move_19 (by decide) rfl (fun c14 => ?_) (fun c14 => ?_)
      · replace h := (if_pos c14).symm.trans h
        refine v_iconst 0 d_Md_move_22 (by decide) rfl ?_
        obtain ⟨e1, e2⟩ := rt_inv h
        exact ret _ _ _ _ ⟨e1, e2, Or.inl rfl⟩ d_Md_move_23
      · replace h := (if_neg c14).symm.trans h
        refine v_aload_n d_Md_move_24 rfl rfl ?_
        refine v_dup d_Md_move_25 rfl rfl ?_
        refine vg_Md_clock d_Md_move_26 rfl ?_
        refine v_iconst 1 d_Md_move_29 (by decide) rfl ?_
        refine v_iadd d_Md_move_30 rfl ?_
        obtain ⟨u7, eu7, h⟩ := jn_inv h
        refine vp_Md_clock eu7 d_Md_move_31 rfl ?_
        refine v_aload_n d_Md_move_34 rfl rfl ?_
        refine vg_Md_rootOf d_Md_move_35 rfl ?_
        refine v_iconst 3 d_Md_move_38 (by decide) rfl ?_
        refine v_iload_n d_Md_move_39 rfl rfl ?_
        refine v_imul d_Md_move_40 rfl ?_
        refine v_iload_n d_Md_move_41 rfl rfl ?_
        refine v_iadd d_Md_move_42 rfl ?_
        obtain ⟨g8, h⟩ := gd_inv h
        refine v_ald 19 (wA_19 ad cA _) d_Md_move_43 g8 rfl ?_
        refine v_istore (lo' := [_, _, _, _, _, _]) d_Md_move_44 rfl (by decide) rfl ?_
        refine v_aload_n d_Md_move_46 rfl rfl ?_
        refine vg_Md_rootOf d_Md_move_47 rfl ?_
        refine v_iconst 3 d_Md_move_50 (by decide) rfl ?_
        refine v_iload_n d_Md_move_51 rfl rfl ?_
        refine v_imul d_Md_move_52 rfl ?_
        refine v_iload d_Md_move_53 rfl rfl ?_
        refine v_iadd d_Md_move_55 rfl ?_
        refine v_iload d_Md_move_56 rfl rfl ?_
        obtain ⟨g9, h⟩ := gd_inv h
        obtain ⟨u10, eu10, h⟩ := jn_inv h
        refine v_ast 19 (wA_19 ad cA _) (ws_19 ad cA _ _ _) eu10 d_Md_move_58 g9 rfl ?_
        refine v_aload_n d_Md_move_59 rfl rfl ?_
        refine v_iload d_Md_move_60 rfl rfl ?_
        refine v_iload_n d_Md_move_62 rfl rfl ?_
        obtain ⟨_y11, u12, hc13, h⟩ := bd_inv h
        refine vc_Md_Md_arrive hc13 (Nat.le_of_ble_eq_true rfl) (Nat.le_of_ble_eq_true rfl) (Nat.le_of_ble_eq_true rfl) d_Md_move_63 rfl ?_
        refine v_iconst 1 d_Md_move_66 (by decide) rfl ?_
        obtain ⟨e1, e2⟩ := rt_inv h
        exact ret _ _ _ _ ⟨e1, e2, Or.inr rfl⟩ d_Md_move_67
theorem vc_La_Md_move {p : Program} {l : Launch} {e : Env} {fr rc rs rl : Nat} {s : State} {m : MethodId} {args : Array Value} {below : List Frame} {meth : Method} {c : Code} {cells slots : Nat} {Q : State → Prop} {A : Nat → Prop} {cc : ByteArray} {nL : Nat} {dC : Nat → ClassId} {dI : Nat → Nat → Nat} {cA : ClassId} {ad : Nat → Nat} {pc q : Nat} {lo : List (Option Value)} {rest : List Value} {u w : Mem} {r : Int32} {N : Nat} {b0 b1 b2 b3 : Int32} (h : f_Md_move N b0 b1 b2 b3 u = some (r, w)) (hfr : 3 + 1 ≤ fr) (hrl : 8 + (6 + 11) + 66 ≤ rl) (hrm : (rest.map fun v => v.category).sum ≤ 8) (hd : decode cc pc = .ok (.invokevirtual 31, 3)) (hq : pc + 3 = q) (k : VJ p l e fr rc rs rl s m args below meth c cells slots Q A cc nL R_La (dC, dI) cA (wA ad cA) q lo (.int r :: rest) w) : VJ p l e fr rc rs rl s m args below meth c cells slots Q A cc nL R_La (dC, dI) cA (wA ad cA) pc lo (.int b3 :: .int b2 :: .int b1 :: .int b0 :: .ref (ad 15) :: rest) u :=
  v_callVI (As := [.int b0, .int b1, .int b2, .int b3]) (rest := rest) (fun sz => c_Md_move l dC dI ad cA sz N b0 b1 b2 b3 u r w h) tw_465 tw_466 tw_467 15 (wA_15 ad cA u) rfl rfl tw_468 tw_28 4 rfl (by decide +kernel) hfr hrl rfl hrm hd hq (fun v w1 hE => by obtain ⟨rfl, rfl, -⟩ := hE; exact k)
theorem d_Md_drop_0 : decode b_Md_drop 0 = .ok (.iload_n 1, 1) := by decide +kernel
theorem d_Md_drop_1 : decode b_Md_drop 1 = .ok (.iload_n 2, 1) := by decide +kernel
theorem d_Md_drop_2 : decode b_Md_drop 2 = .ok (.invokestatic 60, 3) := by decide +kernel
theorem d_Md_drop_5 : decode b_Md_drop 5 = .ok (.ifCond .ne 5, 3) := by decide +kernel
theorem d_Md_drop_8 : decode b_Md_drop 8 = .ok (.iconst 0, 1) := by decide +kernel
theorem d_Md_drop_9 : decode b_Md_drop 9 = .ok (.ireturn, 1) := by decide +kernel
theorem d_Md_drop_10 : decode b_Md_drop 10 = .ok (.aload_n 0, 1) := by decide +kernel
theorem d_Md_drop_11 : decode b_Md_drop 11 = .ok (.dup, 1) := by decide +kernel
theorem d_Md_drop_12 : decode b_Md_drop 12 = .ok (.getfield 50, 3) := by decide +kernel
theorem d_Md_drop_15 : decode b_Md_drop 15 = .ok (.iconst 1, 1) := by decide +kernel
theorem d_Md_drop_16 : decode b_Md_drop 16 = .ok (.iadd, 1) := by decide +kernel
theorem d_Md_drop_17 : decode b_Md_drop 17 = .ok (.putfield 50, 3) := by decide +kernel
theorem d_Md_drop_20 : decode b_Md_drop 20 = .ok (.aload_n 0, 1) := by decide +kernel
theorem d_Md_drop_21 : decode b_Md_drop 21 = .ok (.getfield 19, 3) := by decide +kernel
theorem d_Md_drop_24 : decode b_Md_drop 24 = .ok (.iconst 3, 1) := by decide +kernel
theorem d_Md_drop_25 : decode b_Md_drop 25 = .ok (.iload_n 1, 1) := by decide +kernel
theorem d_Md_drop_26 : decode b_Md_drop 26 = .ok (.imul, 1) := by decide +kernel
theorem d_Md_drop_27 : decode b_Md_drop 27 = .ok (.iload_n 2, 1) := by decide +kernel
theorem d_Md_drop_28 : decode b_Md_drop 28 = .ok (.iadd, 1) := by decide +kernel
theorem d_Md_drop_29 : decode b_Md_drop 29 = .ok (.iconst 0, 1) := by decide +kernel
theorem d_Md_drop_30 : decode b_Md_drop 30 = .ok (.iastore, 1) := by decide +kernel
theorem d_Md_drop_31 : decode b_Md_drop 31 = .ok (.iconst 1, 1) := by decide +kernel
theorem d_Md_drop_32 : decode b_Md_drop 32 = .ok (.ireturn, 1) := by decide +kernel
set_option maxHeartbeats 4000000 in
set_option maxRecDepth 100000 in
theorem c_Md_drop (l : Launch) (dC : Nat → ClassId) (dI : Nat → Nat → Nat) (ad : Nat → Nat) (cA : ClassId) (sz : Nat) (N : Nat) (a1 a2 : Int32) (u : Mem) (r : Int32) (w : Mem) (h : f_Md_drop N a1 a2 u = some (r, w)) : CtI l y_Md_drop (Cond.code y_Md_drop b_Md_drop 3 (some .boolean) :: lw_gd) 2 43 (dC, dI) cA [.ref (ad 15), .int a1, .int a2] (wA ad cA) u sz (fun v w1 => v = r ∧ w1 = w ∧ (v = 0 ∨ v = 1)) := by
  refine v_metI (own := R_Md) [some (.ref (ad 15)), some (.int a1), some (.int a2)] rfl (by decide) (Nat.le_of_ble_eq_true rfl) rfl rfl (fun v u h => by rcases h.2.2 with h | h <;> rw [h] <;> rfl) ?_
  intro p e s m args below meth c A Q ret
  unfold f_Md_drop at h
  refine v_iload_n d_Md_drop_0 rfl rfl ?_
  refine v_iload_n d_Md_drop_1 rfl rfl ?_
  obtain ⟨y1, u2, hc3, h⟩ := bd_inv h
  refine vc_Md_Md_isPlace hc3 (Nat.le_of_ble_eq_true rfl) (Nat.le_of_ble_eq_true rfl) (Nat.le_of_ble_eq_true rfl) d_Md_drop_2 rfl ?_
  refine v_if_ne 10 d_Md_drop_5 (by decide) rfl (fun c7 => ?_) (fun c7 => ?_)
  · replace h := (if_pos c7).symm.trans h
    refine v_iconst 0 d_Md_drop_8 (by decide) rfl ?_
    obtain ⟨e1, e2⟩ := rt_inv h
    exact ret _ _ _ _ ⟨e1, e2, Or.inl rfl⟩ d_Md_drop_9
  · replace h := (if_neg c7).symm.trans h
    refine v_aload_n d_Md_drop_10 rfl rfl ?_
    refine v_dup d_Md_drop_11 rfl rfl ?_
    refine vg_Md_clock d_Md_drop_12 rfl ?_
    refine v_iconst 1 d_Md_drop_15 (by decide) rfl ?_
    refine v_iadd d_Md_drop_16 rfl ?_
    obtain ⟨u4, eu4, h⟩ := jn_inv h
    refine vp_Md_clock eu4 d_Md_drop_17 rfl ?_
    refine v_aload_n d_Md_drop_20 rfl rfl ?_
    refine vg_Md_rootOf d_Md_drop_21 rfl ?_
    refine v_iconst 3 d_Md_drop_24 (by decide) rfl ?_
    refine v_iload_n d_Md_drop_25 rfl rfl ?_
    refine v_imul d_Md_drop_26 rfl ?_
    refine v_iload_n d_Md_drop_27 rfl rfl ?_
    refine v_iadd d_Md_drop_28 rfl ?_
    refine v_iconst 0 d_Md_drop_29 (by decide) rfl ?_
    obtain ⟨g5, h⟩ := gd_inv h
    obtain ⟨u6, eu6, h⟩ := jn_inv h
    refine v_ast 19 (wA_19 ad cA _) (ws_19 ad cA _ _ _) eu6 d_Md_drop_30 g5 rfl ?_
    refine v_iconst 1 d_Md_drop_31 (by decide) rfl ?_
    obtain ⟨e1, e2⟩ := rt_inv h
    exact ret _ _ _ _ ⟨e1, e2, Or.inr rfl⟩ d_Md_drop_32
theorem vc_La_Md_drop {p : Program} {l : Launch} {e : Env} {fr rc rs rl : Nat} {s : State} {m : MethodId} {args : Array Value} {below : List Frame} {meth : Method} {c : Code} {cells slots : Nat} {Q : State → Prop} {A : Nat → Prop} {cc : ByteArray} {nL : Nat} {dC : Nat → ClassId} {dI : Nat → Nat → Nat} {cA : ClassId} {ad : Nat → Nat} {pc q : Nat} {lo : List (Option Value)} {rest : List Value} {u w : Mem} {r : Int32} {N : Nat} {b0 b1 : Int32} (h : f_Md_drop N b0 b1 u = some (r, w)) (hfr : 2 + 1 ≤ fr) (hrl : 8 + (3 + 11) + 43 ≤ rl) (hrm : (rest.map fun v => v.category).sum ≤ 8) (hd : decode cc pc = .ok (.invokevirtual 36, 3)) (hq : pc + 3 = q) (k : VJ p l e fr rc rs rl s m args below meth c cells slots Q A cc nL R_La (dC, dI) cA (wA ad cA) q lo (.int r :: rest) w) : VJ p l e fr rc rs rl s m args below meth c cells slots Q A cc nL R_La (dC, dI) cA (wA ad cA) pc lo (.int b1 :: .int b0 :: .ref (ad 15) :: rest) u :=
  v_callVI (As := [.int b0, .int b1]) (rest := rest) (fun sz => c_Md_drop l dC dI ad cA sz N b0 b1 u r w h) tw_469 tw_470 tw_471 15 (wA_15 ad cA u) rfl rfl tw_472 tw_28 2 rfl (by decide +kernel) hfr hrl rfl hrm hd hq (fun v w1 hE => by obtain ⟨rfl, rfl, -⟩ := hE; exact k)
theorem d_Md_exits_0 : decode b_Md_exits 0 = .ok (.iconst 0, 1) := by decide +kernel
theorem d_Md_exits_1 : decode b_Md_exits 1 = .ok (.istore_n 2, 1) := by decide +kernel
theorem d_Md_exits_2 : decode b_Md_exits 2 = .ok (.iconst 1, 1) := by decide +kernel
theorem d_Md_exits_3 : decode b_Md_exits 3 = .ok (.istore_n 3, 1) := by decide +kernel
theorem d_Md_exits_4 : decode b_Md_exits 4 = .ok (.iload_n 3, 1) := by decide +kernel
theorem d_Md_exits_5 : decode b_Md_exits 5 = .ok (.aload_n 0, 1) := by decide +kernel
theorem d_Md_exits_6 : decode b_Md_exits 6 = .ok (.getfield 42, 3) := by decide +kernel
theorem d_Md_exits_9 : decode b_Md_exits 9 = .ok (.if_icmp .gt 30, 3) := by decide +kernel
theorem d_Md_exits_12 : decode b_Md_exits 12 = .ok (.aload_n 0, 1) := by decide +kernel
theorem d_Md_exits_13 : decode b_Md_exits 13 = .ok (.getfield 22, 3) := by decide +kernel
theorem d_Md_exits_16 : decode b_Md_exits 16 = .ok (.iconst 3, 1) := by decide +kernel
theorem d_Md_exits_17 : decode b_Md_exits 17 = .ok (.iload_n 3, 1) := by decide +kernel
theorem d_Md_exits_18 : decode b_Md_exits 18 = .ok (.imul, 1) := by decide +kernel
theorem d_Md_exits_19 : decode b_Md_exits 19 = .ok (.iload_n 1, 1) := by decide +kernel
theorem d_Md_exits_20 : decode b_Md_exits 20 = .ok (.iadd, 1) := by decide +kernel
theorem d_Md_exits_21 : decode b_Md_exits 21 = .ok (.iaload, 1) := by decide +kernel
theorem d_Md_exits_22 : decode b_Md_exits 22 = .ok (.ifCond .le 9, 3) := by decide +kernel
theorem d_Md_exits_25 : decode b_Md_exits 25 = .ok (.iload_n 2, 1) := by decide +kernel
theorem d_Md_exits_26 : decode b_Md_exits 26 = .ok (.iconst 1, 1) := by decide +kernel
theorem d_Md_exits_27 : decode b_Md_exits 27 = .ok (.iadd, 1) := by decide +kernel
theorem d_Md_exits_28 : decode b_Md_exits 28 = .ok (.goto 4, 3) := by decide +kernel
theorem d_Md_exits_31 : decode b_Md_exits 31 = .ok (.iload_n 2, 1) := by decide +kernel
theorem d_Md_exits_32 : decode b_Md_exits 32 = .ok (.istore_n 2, 1) := by decide +kernel
theorem d_Md_exits_33 : decode b_Md_exits 33 = .ok (.iinc 3 1, 3) := by decide +kernel
theorem d_Md_exits_36 : decode b_Md_exits 36 = .ok (.goto (-32), 3) := by decide +kernel
theorem d_Md_exits_39 : decode b_Md_exits 39 = .ok (.iload_n 2, 1) := by decide +kernel
theorem d_Md_exits_40 : decode b_Md_exits 40 = .ok (.ireturn, 1) := by decide +kernel
set_option maxHeartbeats 4000000 in
set_option maxRecDepth 100000 in
theorem c_Md_exits (l : Launch) (dC : Nat → ClassId) (dI : Nat → Nat → Nat) (ad : Nat → Nat) (cA : ClassId) (sz : Nat) (N : Nat) (a1 : Int32) (u : Mem) (r : Int32) (w : Mem) (h : f_Md_exits N a1 u = some (r, w)) : CtI l y_Md_exits (Cond.code y_Md_exits b_Md_exits 4 (some .int) :: lw_gd) 0 0 (dC, dI) cA [.ref (ad 15), .int a1] (wA ad cA) u sz (fun v w1 => v = r ∧ w1 = w) := by
  refine v_metI (own := R_Md) [some (.ref (ad 15)), some (.int a1), none, none] rfl (by decide) (Nat.le_of_ble_eq_true rfl) rfl rfl (fun v u h => rfl) ?_
  intro p e s m args below meth c A Q ret
  unfold f_Md_exits at h
  refine v_iconst 0 d_Md_exits_0 (by decide) rfl ?_
  refine v_istore_n (lo' := [_, _, _, none]) d_Md_exits_1 rfl (by decide) rfl ?_
  refine v_iconst 1 d_Md_exits_2 (by decide) rfl ?_
  refine v_istore_n (lo' := [_, _, _, _]) d_Md_exits_3 rfl (by decide) rfl ?_
  have L4 : ∀ (κ : Int32 → Mem → Rs), (∀ (x8 : Int32) (u9 : Mem), κ x8 u9 = some (r, w) → VJ p l e 0 0 0 0 s m args below meth c 0 0 Q A b_Md_exits 4 R_Md (dC, dI) cA (wA ad cA) 39 [none, none, some (.int x8), none] [] u9) → ∀ (n : Nat) (x1 x2 x3 : Int32) (u4 : Mem), k_Md_exits_4 N κ n x1 x2 x3 u4 = some (r, w) → VJ p l e 0 0 0 0 s m args below meth c 0 0 Q A b_Md_exits 4 R_Md (dC, dI) cA (wA ad cA) 4 [some (.ref (ad 15)), some (.int x1), some (.int x2), some (.int x3)] [] u4 := by
    intro κ hκ n
    induction n with
    | zero =>
      intro x1 x2 x3 u4 h
      exact no_ns h
    | succ n ih =>
      intro x1 x2 x3 u4 h
      unfold k_Md_exits_4 at h
      refine v_iload_n d_Md_exits_4 rfl rfl ?_
      refine v_aload_n d_Md_exits_5 rfl rfl ?_
      refine vg_Md_made d_Md_exits_6 rfl ?_
      refine v_icmp_gt 39 d_Md_exits_9 (by decide) rfl (fun c7 => ?_) (fun c7 => ?_)
      · replace h := (if_pos c7).symm.trans h
        refine v_drop 0 (lo' := [none, _, _, _]) rfl ?_
        refine v_drop 1 (lo' := [none, none, _, _]) rfl ?_
        refine v_drop 3 (lo' := [none, none, _, none]) rfl ?_
        exact hκ _ _ h
      · replace h := (if_neg c7).symm.trans h
        refine v_aload_n d_Md_exits_12 rfl rfl ?_
        refine vg_Md_exitOf d_Md_exits_13 rfl ?_
        refine v_iconst 3 d_Md_exits_16 (by decide) rfl ?_
        refine v_iload_n d_Md_exits_17 rfl rfl ?_
        refine v_imul d_Md_exits_18 rfl ?_
        refine v_iload_n d_Md_exits_19 rfl rfl ?_
        refine v_iadd d_Md_exits_20 rfl ?_
        obtain ⟨g5, h⟩ := gd_inv h
        refine v_ald 20 (wA_20 ad cA _) d_Md_exits_21 g5 rfl ?_
        refine v_if_le 31 d_Md_exits_22 (by decide) rfl (fun c6 => ?_) (fun c6 => ?_)
        · replace h := (if_pos c6).symm.trans h
          refine v_iload_n d_Md_exits_31 rfl rfl ?_
          refine v_istore_n (lo' := [_, _, _, _]) d_Md_exits_32 rfl (by decide) rfl ?_
          refine v_iinc (lo' := [_, _, _, _]) 1 d_Md_exits_33 (by decide) rfl rfl (by decide) rfl ?_
          refine v_goto 4 d_Md_exits_36 (by decide) ?_
          exact ih _ _ _ _ h
        · replace h := (if_neg c6).symm.trans h
          refine v_iload_n d_Md_exits_25 rfl rfl ?_
          refine v_iconst 1 d_Md_exits_26 (by decide) rfl ?_
          refine v_iadd d_Md_exits_27 rfl ?_
          refine v_goto 32 d_Md_exits_28 (by decide) ?_
          refine v_istore_n (lo' := [_, _, _, _]) d_Md_exits_32 rfl (by decide) rfl ?_
          refine v_iinc (lo' := [_, _, _, _]) 1 d_Md_exits_33 (by decide) rfl rfl (by decide) rfl ?_
          refine v_goto 4 d_Md_exits_36 (by decide) ?_
          exact ih _ _ _ _ h
  refine L4 _ (fun x8 u9 h => ?_) N _ _ _ _ h
  refine v_iload_n d_Md_exits_39 rfl rfl ?_
  obtain ⟨e1, e2⟩ := rt_inv h
  exact ret _ _ _ _ ⟨e1, e2⟩ d_Md_exits_40
theorem vc_Md_Md_exits {p : Program} {l : Launch} {e : Env} {fr rc rs rl : Nat} {s : State} {m : MethodId} {args : Array Value} {below : List Frame} {meth : Method} {c : Code} {cells slots : Nat} {Q : State → Prop} {A : Nat → Prop} {cc : ByteArray} {nL : Nat} {dC : Nat → ClassId} {dI : Nat → Nat → Nat} {cA : ClassId} {ad : Nat → Nat} {pc q : Nat} {lo : List (Option Value)} {rest : List Value} {u w : Mem} {r : Int32} {N : Nat} {b0 : Int32} (h : f_Md_exits N b0 u = some (r, w)) (hfr : 0 + 1 ≤ fr) (hrl : 8 + (4 + 11) + 0 ≤ rl) (hrm : (rest.map fun v => v.category).sum ≤ 8) (hd : decode cc pc = .ok (.invokevirtual 77, 3)) (hq : pc + 3 = q) (k : VJ p l e fr rc rs rl s m args below meth c cells slots Q A cc nL R_Md (dC, dI) cA (wA ad cA) q lo (.int r :: rest) w) : VJ p l e fr rc rs rl s m args below meth c cells slots Q A cc nL R_Md (dC, dI) cA (wA ad cA) pc lo (.int b0 :: .ref (ad 15) :: rest) u :=
  v_callVI (As := [.int b0]) (rest := rest) (fun sz => c_Md_exits l dC dI ad cA sz N b0 u r w h) tw_477 tw_479 tw_18 15 (wA_15 ad cA u) rfl rfl tw_480 tw_28 1 rfl (by decide +kernel) hfr hrl rfl hrm hd hq (fun v w1 hE => by obtain ⟨rfl, rfl⟩ := hE; exact k)
theorem d_Md_roots_0 : decode b_Md_roots 0 = .ok (.aload_n 0, 1) := by decide +kernel
theorem d_Md_roots_1 : decode b_Md_roots 1 = .ok (.getfield 19, 3) := by decide +kernel
theorem d_Md_roots_4 : decode b_Md_roots 4 = .ok (.iconst 3, 1) := by decide +kernel
theorem d_Md_roots_5 : decode b_Md_roots 5 = .ok (.iload_n 1, 1) := by decide +kernel
theorem d_Md_roots_6 : decode b_Md_roots 6 = .ok (.imul, 1) := by decide +kernel
theorem d_Md_roots_7 : decode b_Md_roots 7 = .ok (.iaload, 1) := by decide +kernel
theorem d_Md_roots_8 : decode b_Md_roots 8 = .ok (.iload_n 2, 1) := by decide +kernel
theorem d_Md_roots_9 : decode b_Md_roots 9 = .ok (.if_icmp .eq 31, 3) := by decide +kernel
theorem d_Md_roots_12 : decode b_Md_roots 12 = .ok (.aload_n 0, 1) := by decide +kernel
theorem d_Md_roots_13 : decode b_Md_roots 13 = .ok (.getfield 19, 3) := by decide +kernel
theorem d_Md_roots_16 : decode b_Md_roots 16 = .ok (.iconst 3, 1) := by decide +kernel
theorem d_Md_roots_17 : decode b_Md_roots 17 = .ok (.iload_n 1, 1) := by decide +kernel
theorem d_Md_roots_18 : decode b_Md_roots 18 = .ok (.imul, 1) := by decide +kernel
theorem d_Md_roots_19 : decode b_Md_roots 19 = .ok (.iconst 1, 1) := by decide +kernel
theorem d_Md_roots_20 : decode b_Md_roots 20 = .ok (.iadd, 1) := by decide +kernel
theorem d_Md_roots_21 : decode b_Md_roots 21 = .ok (.iaload, 1) := by decide +kernel
theorem d_Md_roots_22 : decode b_Md_roots 22 = .ok (.iload_n 2, 1) := by decide +kernel
theorem d_Md_roots_23 : decode b_Md_roots 23 = .ok (.if_icmp .eq 17, 3) := by decide +kernel
theorem d_Md_roots_26 : decode b_Md_roots 26 = .ok (.aload_n 0, 1) := by decide +kernel
theorem d_Md_roots_27 : decode b_Md_roots 27 = .ok (.getfield 19, 3) := by decide +kernel
theorem d_Md_roots_30 : decode b_Md_roots 30 = .ok (.iconst 3, 1) := by decide +kernel
theorem d_Md_roots_31 : decode b_Md_roots 31 = .ok (.iload_n 1, 1) := by decide +kernel
theorem d_Md_roots_32 : decode b_Md_roots 32 = .ok (.imul, 1) := by decide +kernel
theorem d_Md_roots_33 : decode b_Md_roots 33 = .ok (.iconst 2, 1) := by decide +kernel
theorem d_Md_roots_34 : decode b_Md_roots 34 = .ok (.iadd, 1) := by decide +kernel
theorem d_Md_roots_35 : decode b_Md_roots 35 = .ok (.iaload, 1) := by decide +kernel
theorem d_Md_roots_36 : decode b_Md_roots 36 = .ok (.iload_n 2, 1) := by decide +kernel
theorem d_Md_roots_37 : decode b_Md_roots 37 = .ok (.if_icmp .ne 7, 3) := by decide +kernel
theorem d_Md_roots_40 : decode b_Md_roots 40 = .ok (.iconst 1, 1) := by decide +kernel
theorem d_Md_roots_41 : decode b_Md_roots 41 = .ok (.goto 4, 3) := by decide +kernel
theorem d_Md_roots_44 : decode b_Md_roots 44 = .ok (.iconst 0, 1) := by decide +kernel
theorem d_Md_roots_45 : decode b_Md_roots 45 = .ok (.ireturn, 1) := by decide +kernel
set_option maxHeartbeats 4000000 in
set_option maxRecDepth 100000 in
theorem c_Md_roots (l : Launch) (dC : Nat → ClassId) (dI : Nat → Nat → Nat) (ad : Nat → Nat) (cA : ClassId) (sz : Nat) (N : Nat) (a1 a2 : Int32) (u : Mem) (r : Int32) (w : Mem) (h : f_Md_roots N a1 a2 u = some (r, w)) : CtI l y_Md_roots (Cond.code y_Md_roots b_Md_roots 3 (some .boolean) :: lw_gd) 0 0 (dC, dI) cA [.ref (ad 15), .int a1, .int a2] (wA ad cA) u sz (fun v w1 => v = r ∧ w1 = w ∧ (v = 0 ∨ v = 1)) := by
  refine v_metI (own := R_Md) [some (.ref (ad 15)), some (.int a1), some (.int a2)] rfl (by decide) (Nat.le_of_ble_eq_true rfl) rfl rfl (fun v u h => by rcases h.2.2 with h | h <;> rw [h] <;> rfl) ?_
  intro p e s m args below meth c A Q ret
  unfold f_Md_roots at h
  refine v_aload_n d_Md_roots_0 rfl rfl ?_
  refine vg_Md_rootOf d_Md_roots_1 rfl ?_
  refine v_iconst 3 d_Md_roots_4 (by decide) rfl ?_
  refine v_iload_n d_Md_roots_5 rfl rfl ?_
  refine v_imul d_Md_roots_6 rfl ?_
  obtain ⟨g1, h⟩ := gd_inv h
  refine v_ald 19 (wA_19 ad cA _) d_Md_roots_7 g1 rfl ?_
  refine v_iload_n d_Md_roots_8 rfl rfl ?_
  refine v_icmp_eq 40 d_Md_roots_9 (by decide) rfl (fun c6 => ?_) (fun c6 => ?_)
  · replace h := (if_pos c6).symm.trans h
    refine v_iconst 1 d_Md_roots_40 (by decide) rfl ?_
    refine v_goto 45 d_Md_roots_41 (by decide) ?_
    obtain ⟨e1, e2⟩ := rt_inv h
    exact ret _ _ _ _ ⟨e1, e2, Or.inr rfl⟩ d_Md_roots_45
  · replace h := (if_neg c6).symm.trans h
    refine v_aload_n d_Md_roots_12 rfl rfl ?_
    refine vg_Md_rootOf d_Md_roots_13 rfl ?_
    refine v_iconst 3 d_Md_roots_16 (by decide) rfl ?_
    refine v_iload_n d_Md_roots_17 rfl rfl ?_
    refine v_imul d_Md_roots_18 rfl ?_
    refine v_iconst 1 d_Md_roots_19 (by decide) rfl ?_
    refine v_iadd d_Md_roots_20 rfl ?_
    obtain ⟨g2, h⟩ := gd_inv h
    refine v_ald 19 (wA_19 ad cA _) d_Md_roots_21 g2 rfl ?_
    refine v_iload_n d_Md_roots_22 rfl rfl ?_
    refine v_icmp_eq 40 d_Md_roots_23 (by decide) rfl (fun c5 => ?_) (fun c5 => ?_)
    · replace h := (if_pos c5).symm.trans h
      refine v_iconst 1 d_Md_roots_40 (by decide) rfl ?_
      refine v_goto 45 d_Md_roots_41 (by decide) ?_
      obtain ⟨e1, e2⟩ := rt_inv h
      exact ret _ _ _ _ ⟨e1, e2, Or.inr rfl⟩ d_Md_roots_45
    · replace h := (if_neg c5).symm.trans h
      refine v_aload_n d_Md_roots_26 rfl rfl ?_
      refine vg_Md_rootOf d_Md_roots_27 rfl ?_
      refine v_iconst 3 d_Md_roots_30 (by decide) rfl ?_
      refine v_iload_n d_Md_roots_31 rfl rfl ?_
      refine v_imul d_Md_roots_32 rfl ?_
      refine v_iconst 2 d_Md_roots_33 (by decide) rfl ?_
      refine v_iadd d_Md_roots_34 rfl ?_
      obtain ⟨g3, h⟩ := gd_inv h
      refine v_ald 19 (wA_19 ad cA _) d_Md_roots_35 g3 rfl ?_
      refine v_iload_n d_Md_roots_36 rfl rfl ?_
      refine v_icmp_ne 44 d_Md_roots_37 (by decide) rfl (fun c4 => ?_) (fun c4 => ?_)
      · replace h := (if_pos c4).symm.trans h
        refine v_iconst 1 d_Md_roots_40 (by decide) rfl ?_
        refine v_goto 45 d_Md_roots_41 (by decide) ?_
        obtain ⟨e1, e2⟩ := rt_inv h
        exact ret _ _ _ _ ⟨e1, e2, Or.inr rfl⟩ d_Md_roots_45
      · replace h := (if_neg c4).symm.trans h
        refine v_iconst 0 d_Md_roots_44 (by decide) rfl ?_
        obtain ⟨e1, e2⟩ := rt_inv h
        exact ret _ _ _ _ ⟨e1, e2, Or.inl rfl⟩ d_Md_roots_45
theorem vc_Md_Md_roots {p : Program} {l : Launch} {e : Env} {fr rc rs rl : Nat} {s : State} {m : MethodId} {args : Array Value} {below : List Frame} {meth : Method} {c : Code} {cells slots : Nat} {Q : State → Prop} {A : Nat → Prop} {cc : ByteArray} {nL : Nat} {dC : Nat → ClassId} {dI : Nat → Nat → Nat} {cA : ClassId} {ad : Nat → Nat} {pc q : Nat} {lo : List (Option Value)} {rest : List Value} {u w : Mem} {r : Int32} {N : Nat} {b0 b1 : Int32} (h : f_Md_roots N b0 b1 u = some (r, w)) (hfr : 0 + 1 ≤ fr) (hrl : 8 + (3 + 11) + 0 ≤ rl) (hrm : (rest.map fun v => v.category).sum ≤ 8) (hd : decode cc pc = .ok (.invokevirtual 71, 3)) (hq : pc + 3 = q) (k : VJ p l e fr rc rs rl s m args below meth c cells slots Q A cc nL R_Md (dC, dI) cA (wA ad cA) q lo (.int r :: rest) w) : VJ p l e fr rc rs rl s m args below meth c cells slots Q A cc nL R_Md (dC, dI) cA (wA ad cA) pc lo (.int b1 :: .int b0 :: .ref (ad 15) :: rest) u :=
  v_callVI (As := [.int b0, .int b1]) (rest := rest) (fun sz => c_Md_roots l dC dI ad cA sz N b0 b1 u r w h) tw_481 tw_483 tw_19 15 (wA_15 ad cA u) rfl rfl tw_484 tw_28 2 rfl (by decide +kernel) hfr hrl rfl hrm hd hq (fun v w1 hE => by obtain ⟨rfl, rfl, -⟩ := hE; exact k)
theorem d_Md_spread_0 : decode b_Md_spread 0 = .ok (.iconst 0, 1) := by decide +kernel
theorem d_Md_spread_1 : decode b_Md_spread 1 = .ok (.istore_n 2, 1) := by decide +kernel
theorem d_Md_spread_2 : decode b_Md_spread 2 = .ok (.iconst 1, 1) := by decide +kernel
theorem d_Md_spread_3 : decode b_Md_spread 3 = .ok (.istore_n 3, 1) := by decide +kernel
theorem d_Md_spread_4 : decode b_Md_spread 4 = .ok (.iload_n 3, 1) := by decide +kernel
theorem d_Md_spread_5 : decode b_Md_spread 5 = .ok (.aload_n 0, 1) := by decide +kernel
theorem d_Md_spread_6 : decode b_Md_spread 6 = .ok (.getfield 42, 3) := by decide +kernel
theorem d_Md_spread_9 : decode b_Md_spread 9 = .ok (.if_icmp .gt 98, 3) := by decide +kernel
theorem d_Md_spread_12 : decode b_Md_spread 12 = .ok (.iconst 0, 1) := by decide +kernel
theorem d_Md_spread_13 : decode b_Md_spread 13 = .ok (.istore 4, 2) := by decide +kernel
theorem d_Md_spread_15 : decode b_Md_spread 15 = .ok (.iload 4, 2) := by decide +kernel
theorem d_Md_spread_17 : decode b_Md_spread 17 = .ok (.iconst 2, 1) := by decide +kernel
theorem d_Md_spread_18 : decode b_Md_spread 18 = .ok (.if_icmp .ge 83, 3) := by decide +kernel
theorem d_Md_spread_21 : decode b_Md_spread 21 = .ok (.aload_n 0, 1) := by decide +kernel
theorem d_Md_spread_22 : decode b_Md_spread 22 = .ok (.getfield 7, 3) := by decide +kernel
theorem d_Md_spread_25 : decode b_Md_spread 25 = .ok (.iload_n 3, 1) := by decide +kernel
theorem d_Md_spread_26 : decode b_Md_spread 26 = .ok (.iaload, 1) := by decide +kernel
theorem d_Md_spread_27 : decode b_Md_spread 27 = .ok (.iload_n 1, 1) := by decide +kernel
theorem d_Md_spread_28 : decode b_Md_spread 28 = .ok (.if_icmp .ne 73, 3) := by decide +kernel
theorem d_Md_spread_31 : decode b_Md_spread 31 = .ok (.aload_n 0, 1) := by decide +kernel
theorem d_Md_spread_32 : decode b_Md_spread 32 = .ok (.getfield 16, 3) := by decide +kernel
theorem d_Md_spread_35 : decode b_Md_spread 35 = .ok (.iconst 2, 1) := by decide +kernel
theorem d_Md_spread_36 : decode b_Md_spread 36 = .ok (.iload_n 3, 1) := by decide +kernel
theorem d_Md_spread_37 : decode b_Md_spread 37 = .ok (.imul, 1) := by decide +kernel
theorem d_Md_spread_38 : decode b_Md_spread 38 = .ok (.iload 4, 2) := by decide +kernel
theorem d_Md_spread_40 : decode b_Md_spread 40 = .ok (.iadd, 1) := by decide +kernel
theorem d_Md_spread_41 : decode b_Md_spread 41 = .ok (.iaload, 1) := by decide +kernel
theorem d_Md_spread_42 : decode b_Md_spread 42 = .ok (.istore 5, 2) := by decide +kernel
theorem d_Md_spread_44 : decode b_Md_spread 44 = .ok (.aload_n 0, 1) := by decide +kernel
theorem d_Md_spread_45 : decode b_Md_spread 45 = .ok (.iload 5, 2) := by decide +kernel
theorem d_Md_spread_47 : decode b_Md_spread 47 = .ok (.invokevirtual 46, 3) := by decide +kernel
theorem d_Md_spread_50 : decode b_Md_spread 50 = .ok (.ifCond .eq 45, 3) := by decide +kernel
theorem d_Md_spread_53 : decode b_Md_spread 53 = .ok (.aload_n 0, 1) := by decide +kernel
theorem d_Md_spread_54 : decode b_Md_spread 54 = .ok (.getfield 7, 3) := by decide +kernel
theorem d_Md_spread_57 : decode b_Md_spread 57 = .ok (.iload 5, 2) := by decide +kernel
theorem d_Md_spread_59 : decode b_Md_spread 59 = .ok (.iaload, 1) := by decide +kernel
theorem d_Md_spread_60 : decode b_Md_spread 60 = .ok (.iload_n 1, 1) := by decide +kernel
theorem d_Md_spread_61 : decode b_Md_spread 61 = .ok (.if_icmp .ne 34, 3) := by decide +kernel
theorem d_Md_spread_64 : decode b_Md_spread 64 = .ok (.aload_n 0, 1) := by decide +kernel
theorem d_Md_spread_65 : decode b_Md_spread 65 = .ok (.getfield 34, 3) := by decide +kernel
theorem d_Md_spread_68 : decode b_Md_spread 68 = .ok (.iload_n 3, 1) := by decide +kernel
theorem d_Md_spread_69 : decode b_Md_spread 69 = .ok (.iaload, 1) := by decide +kernel
theorem d_Md_spread_70 : decode b_Md_spread 70 = .ok (.aload_n 0, 1) := by decide +kernel
theorem d_Md_spread_71 : decode b_Md_spread 71 = .ok (.getfield 34, 3) := by decide +kernel
theorem d_Md_spread_74 : decode b_Md_spread 74 = .ok (.iload 5, 2) := by decide +kernel
theorem d_Md_spread_76 : decode b_Md_spread 76 = .ok (.iaload, 1) := by decide +kernel
theorem d_Md_spread_77 : decode b_Md_spread 77 = .ok (.if_icmp .le 18, 3) := by decide +kernel
theorem d_Md_spread_80 : decode b_Md_spread 80 = .ok (.aload_n 0, 1) := by decide +kernel
theorem d_Md_spread_81 : decode b_Md_spread 81 = .ok (.getfield 34, 3) := by decide +kernel
theorem d_Md_spread_84 : decode b_Md_spread 84 = .ok (.iload 5, 2) := by decide +kernel
theorem d_Md_spread_86 : decode b_Md_spread 86 = .ok (.aload_n 0, 1) := by decide +kernel
theorem d_Md_spread_87 : decode b_Md_spread 87 = .ok (.getfield 34, 3) := by decide +kernel
theorem d_Md_spread_90 : decode b_Md_spread 90 = .ok (.iload_n 3, 1) := by decide +kernel
theorem d_Md_spread_91 : decode b_Md_spread 91 = .ok (.iaload, 1) := by decide +kernel
theorem d_Md_spread_92 : decode b_Md_spread 92 = .ok (.iastore, 1) := by decide +kernel
theorem d_Md_spread_93 : decode b_Md_spread 93 = .ok (.iconst 1, 1) := by decide +kernel
theorem d_Md_spread_94 : decode b_Md_spread 94 = .ok (.istore_n 2, 1) := by decide +kernel
theorem d_Md_spread_95 : decode b_Md_spread 95 = .ok (.iinc 4 1, 3) := by decide +kernel
theorem d_Md_spread_98 : decode b_Md_spread 98 = .ok (.goto (-83), 3) := by decide +kernel
theorem d_Md_spread_101 : decode b_Md_spread 101 = .ok (.iinc 3 1, 3) := by decide +kernel
theorem d_Md_spread_104 : decode b_Md_spread 104 = .ok (.goto (-100), 3) := by decide +kernel
theorem d_Md_spread_107 : decode b_Md_spread 107 = .ok (.iload_n 2, 1) := by decide +kernel
theorem d_Md_spread_108 : decode b_Md_spread 108 = .ok (.ireturn, 1) := by decide +kernel
set_option maxHeartbeats 4000000 in
set_option maxRecDepth 100000 in
theorem c_Md_spread (l : Launch) (dC : Nat → ClassId) (dI : Nat → Nat → Nat) (ad : Nat → Nat) (cA : ClassId) (sz : Nat) (N : Nat) (a1 : Int32) (u : Mem) (r : Int32) (w : Mem) (h : f_Md_spread N a1 u = some (r, w)) : CtI l y_Md_spread (Cond.code y_Md_spread b_Md_spread 6 (some .boolean) :: lw_gd) 2 43 (dC, dI) cA [.ref (ad 15), .int a1] (wA ad cA) u sz (fun v w1 => v = r ∧ w1 = w ∧ (v = 0 ∨ v = 1)) := by
  refine v_metI (own := R_Md) [some (.ref (ad 15)), some (.int a1), none, none, none, none] rfl (by decide) (Nat.le_of_ble_eq_true rfl) rfl rfl (fun v u h => by rcases h.2.2 with h | h <;> rw [h] <;> rfl) ?_
  intro p e s m args below meth c A Q ret
  unfold f_Md_spread at h
  refine v_iconst 0 d_Md_spread_0 (by decide) rfl ?_
  refine v_istore_n (lo' := [_, _, _, none, none, none]) d_Md_spread_1 rfl (by decide) rfl ?_
  refine v_iconst 1 d_Md_spread_2 (by decide) rfl ?_
  refine v_istore_n (lo' := [_, _, _, _, none, none]) d_Md_spread_3 rfl (by decide) rfl ?_
  have L4 : ∀ (κ : Int32 → Mem → Rs), (∀ (x31 : Int32) (u32 : Mem), κ x31 u32 = some (r, w) → VJ p l e 2 0 0 43 s m args below meth c 0 0 Q A b_Md_spread 6 R_Md (dC, dI) cA (wA ad cA) 107 [none, none, some (.int x31), none, none, none] [] u32) → ∀ (n : Nat) (x1 x2 x3 : Int32) (u4 : Mem), k_Md_spread_4 N κ n x1 x2 x3 u4 = some (r, w) → VJ p l e 2 0 0 43 s m args below meth c 0 0 Q A b_Md_spread 6 R_Md (dC, dI) cA (wA ad cA) 4 [some (.ref (ad 15)), some (.int x1), some (.int x2), some (.int x3), none, none] [] u4 := by
    intro κ hκ n
    induction n with
    | zero =>
      intro x1 x2 x3 u4 h
      exact no_ns h
    | succ n ih =>
      intro x1 x2 x3 u4 h
      unfold k_Md_spread_4 at h
      refine v_iload_n d_Md_spread_4 rfl rfl ?_
      refine v_aload_n d_Md_spread_5 rfl rfl ?_
      refine vg_Md_made d_Md_spread_6 rfl ?_
      refine v_icmp_gt 107 d_Md_spread_9 (by decide) rfl (fun c30 => ?_) (fun c30 => ?_)
      · replace h := (if_pos c30).symm.trans h
        refine v_drop 0 (lo' := [none, _, _, _, none, none]) rfl ?_
        refine v_drop 1 (lo' := [none, none, _, _, none, none]) rfl ?_
        refine v_drop 3 (lo' := [none, none, _, none, none, none]) rfl ?_
        exact hκ _ _ h
      · replace h := (if_neg c30).symm.trans h
        refine v_iconst 0 d_Md_spread_12 (by decide) rfl ?_
        refine v_istore (lo' := [_, _, _, _, _, none]) d_Md_spread_13 rfl (by decide) rfl ?_
        have L15 : ∀ (κ : Int32 → Int32 → Int32 → Mem → Rs), (∀ (x26 x27 x28 : Int32) (u29 : Mem), κ x26 x27 x28 u29 = some (r, w) → VJ p l e 2 0 0 43 s m args below meth c 0 0 Q A b_Md_spread 6 R_Md (dC, dI) cA (wA ad cA) 101 [some (.ref (ad 15)), some (.int x26), some (.int x27), some (.int x28), none, none] [] u29) → ∀ (n : Nat) (x5 x6 x7 x8 : Int32) (u9 : Mem), k_Md_spread_15 N κ n x5 x6 x7 x8 u9 = some (r, w) → VJ p l e 2 0 0 43 s m args below meth c 0 0 Q A b_Md_spread 6 R_Md (dC, dI) cA (wA ad cA) 15 [some (.ref (ad 15)), some (.int x5), some (.int x6), some (.int x7), some (.int x8), none] [] u9 := by
          intro κ hκ n
          induction n with
          | zero =>
            intro x5 x6 x7 x8 u9 h
            exact no_ns h
          | succ n ih =>
            intro x5 x6 x7 x8 u9 h
            unfold k_Md_spread_15 at h
            refine v_iload d_Md_spread_15 rfl rfl ?_
            refine v_iconst 2 d_Md_spread_17 (by decide) rfl ?_
            refine v_icmp_ge 101 d_Md_spread_18 (by decide) rfl (fun c25 => ?_) (fun c25 => ?_)
            · replace h := (if_pos c25).symm.trans h
              refine v_drop 4 (lo' := [_, _, _, _, none, none]) rfl ?_
              exact hκ _ _ _ _ h
            · replace h := (if_neg c25).symm.trans h
              refine v_aload_n d_Md_spread_21 rfl rfl ?_
              refine vg_Md_ownerOf d_Md_spread_22 rfl ?_
              refine v_iload_n d_Md_spread_25 rfl rfl ?_
              obtain ⟨g10, h⟩ := gd_inv h
              refine v_ald 16 (wA_16 ad cA _) d_Md_spread_26 g10 rfl ?_
              refine v_iload_n d_Md_spread_27 rfl rfl ?_
              refine v_icmp_ne 101 d_Md_spread_28 (by decide) rfl (fun c24 => ?_) (fun c24 => ?_)
              · replace h := (if_pos c24).symm.trans h
                refine v_aload_n d_Md_spread_31 rfl rfl ?_
                refine vg_Md_fieldOf d_Md_spread_32 rfl ?_
                refine v_iconst 2 d_Md_spread_35 (by decide) rfl ?_
                refine v_iload_n d_Md_spread_36 rfl rfl ?_
                refine v_imul d_Md_spread_37 rfl ?_
                refine v_iload d_Md_spread_38 rfl rfl ?_
                refine v_iadd d_Md_spread_40 rfl ?_
                obtain ⟨g11, h⟩ := gd_inv h
                refine v_ald 18 (wA_18 ad cA _) d_Md_spread_41 g11 rfl ?_
                refine v_istore (lo' := [_, _, _, _, _, _]) d_Md_spread_42 rfl (by decide) rfl ?_
                refine v_aload_n d_Md_spread_44 rfl rfl ?_
                refine v_iload d_Md_spread_45 rfl rfl ?_
                obtain ⟨y12, u13, hc14, h⟩ := bd_inv h
                refine vc_Md_Md_there hc14 (Nat.le_of_ble_eq_true rfl) (Nat.le_of_ble_eq_true rfl) (Nat.le_of_ble_eq_true rfl) d_Md_spread_47 rfl ?_
                refine v_if_eq 95 d_Md_spread_50 (by decide) rfl (fun c23 => ?_) (fun c23 => ?_)
                · replace h := (if_pos c23).symm.trans h
                  refine v_iinc (lo' := [_, _, _, _, _, _]) 1 d_Md_spread_95 (by decide) rfl rfl (by decide) rfl ?_
                  refine v_goto 15 d_Md_spread_98 (by decide) ?_
                  refine v_drop 5 (lo' := [_, _, _, _, _, none]) rfl ?_
                  exact ih _ _ _ _ _ h
                · replace h := (if_neg c23).symm.trans h
                  refine v_aload_n d_Md_spread_53 rfl rfl ?_
                  refine vg_Md_ownerOf d_Md_spread_54 rfl ?_
                  refine v_iload d_Md_spread_57 rfl rfl ?_
                  obtain ⟨g15, h⟩ := gd_inv h
                  refine v_ald 16 (wA_16 ad cA _) d_Md_spread_59 g15 rfl ?_
                  refine v_iload_n d_Md_spread_60 rfl rfl ?_
                  refine v_icmp_ne 95 d_Md_spread_61 (by decide) rfl (fun c22 => ?_) (fun c22 => ?_)
                  · replace h := (if_pos c22).symm.trans h
                    refine v_aload_n d_Md_spread_64 rfl rfl ?_
                    refine vg_Md_best d_Md_spread_65 rfl ?_
                    refine v_iload_n d_Md_spread_68 rfl rfl ?_
                    obtain ⟨g16, h⟩ := gd_inv h
                    refine v_ald 24 (wA_24 ad cA _) d_Md_spread_69 g16 rfl ?_
                    refine v_aload_n d_Md_spread_70 rfl rfl ?_
                    refine vg_Md_best d_Md_spread_71 rfl ?_
                    refine v_iload d_Md_spread_74 rfl rfl ?_
                    obtain ⟨g17, h⟩ := gd_inv h
                    refine v_ald 24 (wA_24 ad cA _) d_Md_spread_76 g17 rfl ?_
                    refine v_icmp_le 95 d_Md_spread_77 (by decide) rfl (fun c21 => ?_) (fun c21 => ?_)
                    · replace h := (if_pos c21).symm.trans h
                      refine v_iinc (lo' := [_, _, _, _, _, _]) 1 d_Md_spread_95 (by decide) rfl rfl (by decide) rfl ?_
                      refine v_goto 15 d_Md_spread_98 (by decide) ?_
                      refine v_drop 5 (lo' := [_, _, _, _, _, none]) rfl ?_
                      exact ih _ _ _ _ _ h
                    · replace h := (if_neg c21).symm.trans h
                      refine v_aload_n d_Md_spread_80 rfl rfl ?_
                      refine vg_Md_best d_Md_spread_81 rfl ?_
                      refine v_iload d_Md_spread_84 rfl rfl ?_
                      refine v_aload_n d_Md_spread_86 rfl rfl ?_
                      refine vg_Md_best d_Md_spread_87 rfl ?_
                      refine v_iload_n d_Md_spread_90 rfl rfl ?_
                      obtain ⟨g18, h⟩ := gd_inv h
                      refine v_ald 24 (wA_24 ad cA _) d_Md_spread_91 g18 rfl ?_
                      obtain ⟨g19, h⟩ := gd_inv h
                      obtain ⟨u20, eu20, h⟩ := jn_inv h
                      refine v_ast 24 (wA_24 ad cA _) (ws_24 ad cA _ _ _) eu20 d_Md_spread_92 g19 rfl ?_
                      refine v_iconst 1 d_Md_spread_93 (by decide) rfl ?_
                      refine v_istore_n (lo' := [_, _, _, _, _, _]) d_Md_spread_94 rfl (by decide) rfl ?_
                      refine v_iinc (lo' := [_, _, _, _, _, _]) 1 d_Md_spread_95 (by decide) rfl rfl (by decide) rfl ?_
                      refine v_goto 15 d_Md_spread_98 (by decide) ?_
                      refine v_drop 5 (lo' := [_, _, _, _, _, none]) rfl ?_
                      exact ih _ _ _ _ _ h
                  · replace h := (if_neg c22).symm.trans h
                    refine v_iinc (lo' := [_, _, _, _, _, _]) 1 d_Md_spread_95 (by decide) rfl rfl (by decide) rfl ?_
                    refine v_goto 15 d_Md_spread_98 (by decide) ?_
                    refine v_drop 5 (lo' := [_, _, _, _, _, none]) rfl ?_
                    exact ih _ _ _ _ _ h
              · replace h := (if_neg c24).symm.trans h
                refine v_drop 4 (lo' := [_, _, _, _, none, none]) rfl ?_
                exact hκ _ _ _ _ h
        refine L15 _ (fun x26 x27 x28 u29 h => ?_) N _ _ _ _ _ h
        refine v_iinc (lo' := [_, _, _, _, none, none]) 1 d_Md_spread_101 (by decide) rfl rfl (by decide) rfl ?_
        refine v_goto 4 d_Md_spread_104 (by decide) ?_
        exact ih _ _ _ _ h
  refine L4 _ (fun x31 u32 h => ?_) N _ _ _ _ h
  refine v_iload_n d_Md_spread_107 rfl rfl ?_
  obtain ⟨gb, h⟩ := gd_inv h
  obtain ⟨e1, e2⟩ := rt_inv h
  exact ret _ _ _ _ ⟨e1, e2, gb⟩ d_Md_spread_108
theorem vc_Md_Md_spread {p : Program} {l : Launch} {e : Env} {fr rc rs rl : Nat} {s : State} {m : MethodId} {args : Array Value} {below : List Frame} {meth : Method} {c : Code} {cells slots : Nat} {Q : State → Prop} {A : Nat → Prop} {cc : ByteArray} {nL : Nat} {dC : Nat → ClassId} {dI : Nat → Nat → Nat} {cA : ClassId} {ad : Nat → Nat} {pc q : Nat} {lo : List (Option Value)} {rest : List Value} {u w : Mem} {r : Int32} {N : Nat} {b0 : Int32} (h : f_Md_spread N b0 u = some (r, w)) (hfr : 2 + 1 ≤ fr) (hrl : 8 + (6 + 11) + 43 ≤ rl) (hrm : (rest.map fun v => v.category).sum ≤ 8) (hd : decode cc pc = .ok (.invokevirtual 80, 3)) (hq : pc + 3 = q) (k : VJ p l e fr rc rs rl s m args below meth c cells slots Q A cc nL R_Md (dC, dI) cA (wA ad cA) q lo (.int r :: rest) w) : VJ p l e fr rc rs rl s m args below meth c cells slots Q A cc nL R_Md (dC, dI) cA (wA ad cA) pc lo (.int b0 :: .ref (ad 15) :: rest) u :=
  v_callVI (As := [.int b0]) (rest := rest) (fun sz => c_Md_spread l dC dI ad cA sz N b0 u r w h) tw_485 tw_487 tw_20 15 (wA_15 ad cA u) rfl rfl tw_488 tw_28 1 rfl (by decide +kernel) hfr hrl rfl hrm hd hq (fun v w1 hE => by obtain ⟨rfl, rfl, -⟩ := hE; exact k)
theorem d_Md_reaches_0 : decode b_Md_reaches 0 = .ok (.aload_n 0, 1) := by decide +kernel
theorem d_Md_reaches_1 : decode b_Md_reaches 1 = .ok (.iload_n 1, 1) := by decide +kernel
theorem d_Md_reaches_2 : decode b_Md_reaches 2 = .ok (.iload_n 2, 1) := by decide +kernel
theorem d_Md_reaches_3 : decode b_Md_reaches 3 = .ok (.invokevirtual 71, 3) := by decide +kernel
theorem d_Md_reaches_6 : decode b_Md_reaches 6 = .ok (.ifCond .eq 10, 3) := by decide +kernel
theorem d_Md_reaches_9 : decode b_Md_reaches 9 = .ok (.aload_n 0, 1) := by decide +kernel
theorem d_Md_reaches_10 : decode b_Md_reaches 10 = .ok (.getfield 50, 3) := by decide +kernel
theorem d_Md_reaches_13 : decode b_Md_reaches 13 = .ok (.goto 4, 3) := by decide +kernel
theorem d_Md_reaches_16 : decode b_Md_reaches 16 = .ok (.iconst (-1), 1) := by decide +kernel
theorem d_Md_reaches_17 : decode b_Md_reaches 17 = .ok (.istore_n 3, 1) := by decide +kernel
theorem d_Md_reaches_18 : decode b_Md_reaches 18 = .ok (.iconst 1, 1) := by decide +kernel
theorem d_Md_reaches_19 : decode b_Md_reaches 19 = .ok (.istore 4, 2) := by decide +kernel
theorem d_Md_reaches_21 : decode b_Md_reaches 21 = .ok (.iload 4, 2) := by decide +kernel
theorem d_Md_reaches_23 : decode b_Md_reaches 23 = .ok (.aload_n 0, 1) := by decide +kernel
theorem d_Md_reaches_24 : decode b_Md_reaches 24 = .ok (.getfield 42, 3) := by decide +kernel
theorem d_Md_reaches_27 : decode b_Md_reaches 27 = .ok (.if_icmp .gt 83, 3) := by decide +kernel
theorem d_Md_reaches_30 : decode b_Md_reaches 30 = .ok (.aload_n 0, 1) := by decide +kernel
theorem d_Md_reaches_31 : decode b_Md_reaches 31 = .ok (.getfield 7, 3) := by decide +kernel
theorem d_Md_reaches_34 : decode b_Md_reaches 34 = .ok (.iload 4, 2) := by decide +kernel
theorem d_Md_reaches_36 : decode b_Md_reaches 36 = .ok (.iaload, 1) := by decide +kernel
theorem d_Md_reaches_37 : decode b_Md_reaches 37 = .ok (.iload_n 1, 1) := by decide +kernel
theorem d_Md_reaches_38 : decode b_Md_reaches 38 = .ok (.if_icmp .ne 35, 3) := by decide +kernel
theorem d_Md_reaches_41 : decode b_Md_reaches 41 = .ok (.aload_n 0, 1) := by decide +kernel
theorem d_Md_reaches_42 : decode b_Md_reaches 42 = .ok (.getfield 16, 3) := by decide +kernel
theorem d_Md_reaches_45 : decode b_Md_reaches 45 = .ok (.iconst 2, 1) := by decide +kernel
theorem d_Md_reaches_46 : decode b_Md_reaches 46 = .ok (.iload 4, 2) := by decide +kernel
theorem d_Md_reaches_48 : decode b_Md_reaches 48 = .ok (.imul, 1) := by decide +kernel
theorem d_Md_reaches_49 : decode b_Md_reaches 49 = .ok (.iaload, 1) := by decide +kernel
theorem d_Md_reaches_50 : decode b_Md_reaches 50 = .ok (.iload_n 2, 1) := by decide +kernel
theorem d_Md_reaches_51 : decode b_Md_reaches 51 = .ok (.if_icmp .eq 18, 3) := by decide +kernel
theorem d_Md_reaches_54 : decode b_Md_reaches 54 = .ok (.aload_n 0, 1) := by decide +kernel
theorem d_Md_reaches_55 : decode b_Md_reaches 55 = .ok (.getfield 16, 3) := by decide +kernel
theorem d_Md_reaches_58 : decode b_Md_reaches 58 = .ok (.iconst 2, 1) := by decide +kernel
theorem d_Md_reaches_59 : decode b_Md_reaches 59 = .ok (.iload 4, 2) := by decide +kernel
theorem d_Md_reaches_61 : decode b_Md_reaches 61 = .ok (.imul, 1) := by decide +kernel
theorem d_Md_reaches_62 : decode b_Md_reaches 62 = .ok (.iconst 1, 1) := by decide +kernel
theorem d_Md_reaches_63 : decode b_Md_reaches 63 = .ok (.iadd, 1) := by decide +kernel
theorem d_Md_reaches_64 : decode b_Md_reaches 64 = .ok (.iaload, 1) := by decide +kernel
theorem d_Md_reaches_65 : decode b_Md_reaches 65 = .ok (.iload_n 2, 1) := by decide +kernel
theorem d_Md_reaches_66 : decode b_Md_reaches 66 = .ok (.if_icmp .ne 7, 3) := by decide +kernel
theorem d_Md_reaches_69 : decode b_Md_reaches 69 = .ok (.iconst 1, 1) := by decide +kernel
theorem d_Md_reaches_70 : decode b_Md_reaches 70 = .ok (.goto 4, 3) := by decide +kernel
theorem d_Md_reaches_73 : decode b_Md_reaches 73 = .ok (.iconst 0, 1) := by decide +kernel
theorem d_Md_reaches_74 : decode b_Md_reaches 74 = .ok (.istore 5, 2) := by decide +kernel
theorem d_Md_reaches_76 : decode b_Md_reaches 76 = .ok (.iload 5, 2) := by decide +kernel
theorem d_Md_reaches_78 : decode b_Md_reaches 78 = .ok (.ifCond .eq 24, 3) := by decide +kernel
theorem d_Md_reaches_81 : decode b_Md_reaches 81 = .ok (.aload_n 0, 1) := by decide +kernel
theorem d_Md_reaches_82 : decode b_Md_reaches 82 = .ok (.getfield 34, 3) := by decide +kernel
theorem d_Md_reaches_85 : decode b_Md_reaches 85 = .ok (.iload 4, 2) := by decide +kernel
theorem d_Md_reaches_87 : decode b_Md_reaches 87 = .ok (.iaload, 1) := by decide +kernel
theorem d_Md_reaches_88 : decode b_Md_reaches 88 = .ok (.iload_n 3, 1) := by decide +kernel
theorem d_Md_reaches_89 : decode b_Md_reaches 89 = .ok (.if_icmp .le 13, 3) := by decide +kernel
theorem d_Md_reaches_92 : decode b_Md_reaches 92 = .ok (.aload_n 0, 1) := by decide +kernel
theorem d_Md_reaches_93 : decode b_Md_reaches 93 = .ok (.getfield 34, 3) := by decide +kernel
theorem d_Md_reaches_96 : decode b_Md_reaches 96 = .ok (.iload 4, 2) := by decide +kernel
theorem d_Md_reaches_98 : decode b_Md_reaches 98 = .ok (.iaload, 1) := by decide +kernel
theorem d_Md_reaches_99 : decode b_Md_reaches 99 = .ok (.goto 4, 3) := by decide +kernel
theorem d_Md_reaches_102 : decode b_Md_reaches 102 = .ok (.iload_n 3, 1) := by decide +kernel
theorem d_Md_reaches_103 : decode b_Md_reaches 103 = .ok (.istore_n 3, 1) := by decide +kernel
theorem d_Md_reaches_104 : decode b_Md_reaches 104 = .ok (.iinc 4 1, 3) := by decide +kernel
theorem d_Md_reaches_107 : decode b_Md_reaches 107 = .ok (.goto (-86), 3) := by decide +kernel
theorem d_Md_reaches_110 : decode b_Md_reaches 110 = .ok (.iload_n 3, 1) := by decide +kernel
theorem d_Md_reaches_111 : decode b_Md_reaches 111 = .ok (.ireturn, 1) := by decide +kernel
set_option maxHeartbeats 4000000 in
set_option maxRecDepth 100000 in
theorem c_Md_reaches (l : Launch) (dC : Nat → ClassId) (dI : Nat → Nat → Nat) (ad : Nat → Nat) (cA : ClassId) (sz : Nat) (N : Nat) (a1 a2 : Int32) (u : Mem) (r : Int32) (w : Mem) (h : f_Md_reaches N a1 a2 u = some (r, w)) : CtI l y_Md_reaches (Cond.code y_Md_reaches b_Md_reaches 6 (some .int) :: lw_gd) 1 22 (dC, dI) cA [.ref (ad 15), .int a1, .int a2] (wA ad cA) u sz (fun v w1 => v = r ∧ w1 = w) := by
  refine v_metI (own := R_Md) [some (.ref (ad 15)), some (.int a1), some (.int a2), none, none, none] rfl (by decide) (Nat.le_of_ble_eq_true rfl) rfl rfl (fun v u h => rfl) ?_
  intro p e s m args below meth c A Q ret
  unfold f_Md_reaches at h
  refine v_aload_n d_Md_reaches_0 rfl rfl ?_
  refine v_iload_n d_Md_reaches_1 rfl rfl ?_
  refine v_iload_n d_Md_reaches_2 rfl rfl ?_
  obtain ⟨y1, u2, hc3, h⟩ := bd_inv h
  refine vc_Md_Md_roots hc3 (Nat.le_of_ble_eq_true rfl) (Nat.le_of_ble_eq_true rfl) (Nat.le_of_ble_eq_true rfl) d_Md_reaches_3 rfl ?_
  obtain ⟨J17, eJ17, h⟩ := jn_inv h
  have V17 : ∀ (x4 x5 s6 : Int32) (u7 : Mem), J17 x4 x5 s6 u7 = some (r, w) → VJ p l e 1 0 0 22 s m args below meth c 0 0 Q A b_Md_reaches 6 R_Md (dC, dI) cA (wA ad cA) 17 [some (.ref (ad 15)), some (.int x4), some (.int x5), none, none, none] [.int s6] u7 := by
    intro x4 x5 s6 u7 h
    rw [eJ17] at h
    refine v_istore_n (lo' := [_, _, _, _, none, none]) d_Md_reaches_17 rfl (by decide) rfl ?_
    refine v_iconst 1 d_Md_reaches_18 (by decide) rfl ?_
    refine v_istore (lo' := [_, _, _, _, _, none]) d_Md_reaches_19 rfl (by decide) rfl ?_
    have L21 : ∀ (κ : Int32 → Mem → Rs), (∀ (x30 : Int32) (u31 : Mem), κ x30 u31 = some (r, w) → VJ p l e 1 0 0 22 s m args below meth c 0 0 Q A b_Md_reaches 6 R_Md (dC, dI) cA (wA ad cA) 110 [none, none, none, some (.int x30), none, none] [] u31) → ∀ (n : Nat) (x8 x9 x10 x11 : Int32) (u12 : Mem), k_Md_reaches_21 N κ n x8 x9 x10 x11 u12 = some (r, w) → VJ p l e 1 0 0 22 s m args below meth c 0 0 Q A b_Md_reaches 6 R_Md (dC, dI) cA (wA ad cA) 21 [some (.ref (ad 15)), some (.int x8), some (.int x9), some (.int x10), some (.int x11), none] [] u12 := by
      intro κ hκ n
      induction n with
      | zero =>
        intro x8 x9 x10 x11 u12 h
        exact no_ns h
      | succ n ih =>
        intro x8 x9 x10 x11 u12 h
        unfold k_Md_reaches_21 at h
        refine v_iload d_Md_reaches_21 rfl rfl ?_
        refine v_aload_n d_Md_reaches_23 rfl rfl ?_
        refine vg_Md_made d_Md_reaches_24 rfl ?_
        refine v_icmp_gt 110 d_Md_reaches_27 (by decide) rfl (fun c29 => ?_) (fun c29 => ?_)
        · replace h := (if_pos c29).symm.trans h
          refine v_drop 0 (lo' := [none, _, _, _, _, none]) rfl ?_
          refine v_drop 1 (lo' := [none, none, _, _, _, none]) rfl ?_
          refine v_drop 2 (lo' := [none, none, none, _, _, none]) rfl ?_
          refine v_drop 4 (lo' := [none, none, none, _, none, none]) rfl ?_
          exact hκ _ _ h
        · replace h := (if_neg c29).symm.trans h
          refine v_aload_n d_Md_reaches_30 rfl rfl ?_
          refine vg_Md_ownerOf d_Md_reaches_31 rfl ?_
          refine v_iload d_Md_reaches_34 rfl rfl ?_
          obtain ⟨g13, h⟩ := gd_inv h
          refine v_ald 16 (wA_16 ad cA _) d_Md_reaches_36 g13 rfl ?_
          refine v_iload_n d_Md_reaches_37 rfl rfl ?_
          obtain ⟨J74, eJ74, h⟩ := jn_inv h
          have V74 : ∀ (x14 x15 x16 x17 s18 : Int32) (u19 : Mem), J74 x14 x15 x16 x17 s18 u19 = some (r, w) → VJ p l e 1 0 0 22 s m args below meth c 0 0 Q A b_Md_reaches 6 R_Md (dC, dI) cA (wA ad cA) 74 [some (.ref (ad 15)), some (.int x14), some (.int x15), some (.int x16), some (.int x17), none] [.int s18] u19 := by
            intro x14 x15 x16 x17 s18 u19 h
            rw [eJ74] at h
            refine v_istore (lo' := [_, _, _, _, _, _]) d_Md_reaches_74 rfl (by decide) rfl ?_
            refine v_iload d_Md_reaches_76 rfl rfl ?_
            refine v_if_eq 102 d_Md_reaches_78 (by decide) rfl (fun c23 => ?_) (fun c23 => ?_)
            · replace h := (if_pos c23).symm.trans h
              refine v_iload_n d_Md_reaches_102 rfl rfl ?_
              refine v_istore_n (lo' := [_, _, _, _, _, _]) d_Md_reaches_103 rfl (by decide) rfl ?_
              refine v_iinc (lo' := [_, _, _, _, _, _]) 1 d_Md_reaches_104 (by decide) rfl rfl (by decide) rfl ?_
              refine v_goto 21 d_Md_reaches_107 (by decide) ?_
              refine v_drop 5 (lo' := [_, _, _, _, _, none]) rfl ?_
              exact ih _ _ _ _ _ h
            · replace h := (if_neg c23).symm.trans h
              refine v_aload_n d_Md_reaches_81 rfl rfl ?_
              refine vg_Md_best d_Md_reaches_82 rfl ?_
              refine v_iload d_Md_reaches_85 rfl rfl ?_
              obtain ⟨g20, h⟩ := gd_inv h
              refine v_ald 24 (wA_24 ad cA _) d_Md_reaches_87 g20 rfl ?_
              refine v_iload_n d_Md_reaches_88 rfl rfl ?_
              refine v_icmp_le 102 d_Md_reaches_89 (by decide) rfl (fun c22 => ?_) (fun c22 => ?_)
              · replace h := (if_pos c22).symm.trans h
                refine v_iload_n d_Md_reaches_102 rfl rfl ?_
                refine v_istore_n (lo' := [_, _, _, _, _, _]) d_Md_reaches_103 rfl (by decide) rfl ?_
                refine v_iinc (lo' := [_, _, _, _, _, _]) 1 d_Md_reaches_104 (by decide) rfl rfl (by decide) rfl ?_
                refine v_goto 21 d_Md_reaches_107 (by decide) ?_
                refine v_drop 5 (lo' := [_, _, _, _, _, none]) rfl ?_
                exact ih _ _ _ _ _ h
              · replace h := (if_neg c22).symm.trans h
                refine v_aload_n d_Md_reaches_92 rfl rfl ?_
                refine vg_Md_best d_Md_reaches_93 rfl ?_
                refine v_iload d_Md_reaches_96 rfl rfl ?_
                obtain ⟨g21, h⟩ := gd_inv h
                refine v_ald 24 (wA_24 ad cA _) d_Md_reaches_98 g21 rfl ?_
                refine v_goto 103 d_Md_reaches_99 (by decide) ?_
                refine v_istore_n (lo' := [_, _, _, _, _, _]) d_Md_reaches_103 rfl (by decide) rfl ?_
                refine v_iinc (lo' := [_, _, _, _, _, _]) 1 d_Md_reaches_104 (by decide) rfl rfl (by decide) rfl ?_
                refine v_goto 21 d_Md_reaches_107 (by decide) ?_
                refine v_drop 5 (lo' := [_, _, _, _, _, none]) rfl ?_
                exact ih _ _ _ _ _ h
          clear eJ74
          refine v_icmp_ne 73 d_Md_reaches_38 (by decide) rfl (fun c28 => ?_) (fun c28 => ?_)
          · replace h := (if_pos c28).symm.trans h
            refine v_aload_n d_Md_reaches_41 rfl rfl ?_
            refine vg_Md_fieldOf d_Md_reaches_42 rfl ?_
            refine v_iconst 2 d_Md_reaches_45 (by decide) rfl ?_
            refine v_iload d_Md_reaches_46 rfl rfl ?_
            refine v_imul d_Md_reaches_48 rfl ?_
            obtain ⟨g24, h⟩ := gd_inv h
            refine v_ald 18 (wA_18 ad cA _) d_Md_reaches_49 g24 rfl ?_
            refine v_iload_n d_Md_reaches_50 rfl rfl ?_
            refine v_icmp_eq 69 d_Md_reaches_51 (by decide) rfl (fun c27 => ?_) (fun c27 => ?_)
            · replace h := (if_pos c27).symm.trans h
              refine v_iconst 1 d_Md_reaches_69 (by decide) rfl ?_
              refine v_goto 74 d_Md_reaches_70 (by decide) ?_
              exact V74 _ _ _ _ _ _ h
            · replace h := (if_neg c27).symm.trans h
              refine v_aload_n d_Md_reaches_54 rfl rfl ?_
              refine vg_Md_fieldOf d_Md_reaches_55 rfl ?_
              refine v_iconst 2 d_Md_reaches_58 (by decide) rfl ?_
              refine v_iload d_Md_reaches_59 rfl rfl ?_
              refine v_imul d_Md_reaches_61 rfl ?_
              refine v_iconst 1 d_Md_reaches_62 (by decide) rfl ?_
              refine v_iadd d_Md_reaches_63 rfl ?_
              obtain ⟨g25, h⟩ := gd_inv h
              refine v_ald 18 (wA_18 ad cA _) d_Md_reaches_64 g25 rfl ?_
              refine v_iload_n d_Md_reaches_65 rfl rfl ?_
              refine v_icmp_ne 73 d_Md_reaches_66 (by decide) rfl (fun c26 => ?_) (fun c26 => ?_)
              · replace h := (if_pos c26).symm.trans h
                refine v_iconst 1 d_Md_reaches_69 (by decide) rfl ?_
                refine v_goto 74 d_Md_reaches_70 (by decide) ?_
                exact V74 _ _ _ _ _ _ h
              · replace h := (if_neg c26).symm.trans h
                refine v_iconst 0 d_Md_reaches_73 (by decide) rfl ?_
                exact V74 _ _ _ _ _ _ h
          · replace h := (if_neg c28).symm.trans h
            refine v_iconst 0 d_Md_reaches_73 (by decide) rfl ?_
            exact V74 _ _ _ _ _ _ h
    refine L21 _ (fun x30 u31 h => ?_) N _ _ _ _ _ h
    refine v_iload_n d_Md_reaches_110 rfl rfl ?_
    obtain ⟨e1, e2⟩ := rt_inv h
    exact ret _ _ _ _ ⟨e1, e2⟩ d_Md_reaches_111
  clear eJ17
  refine v_if_eq 16 d_Md_reaches_6 (by decide) rfl (fun c32 => ?_) (fun c32 => ?_)
  · replace h := (if_pos c32).symm.trans h
    refine v_iconst (-1) d_Md_reaches_16 (by decide) rfl ?_
    exact V17 _ _ _ _ h
  · replace h := (if_neg c32).symm.trans h
    refine v_aload_n d_Md_reaches_9 rfl rfl ?_
    refine vg_Md_clock d_Md_reaches_10 rfl ?_
    refine v_goto 17 d_Md_reaches_13 (by decide) ?_
    exact V17 _ _ _ _ h
theorem vc_Md_Md_reaches {p : Program} {l : Launch} {e : Env} {fr rc rs rl : Nat} {s : State} {m : MethodId} {args : Array Value} {below : List Frame} {meth : Method} {c : Code} {cells slots : Nat} {Q : State → Prop} {A : Nat → Prop} {cc : ByteArray} {nL : Nat} {dC : Nat → ClassId} {dI : Nat → Nat → Nat} {cA : ClassId} {ad : Nat → Nat} {pc q : Nat} {lo : List (Option Value)} {rest : List Value} {u w : Mem} {r : Int32} {N : Nat} {b0 b1 : Int32} (h : f_Md_reaches N b0 b1 u = some (r, w)) (hfr : 1 + 1 ≤ fr) (hrl : 8 + (6 + 11) + 22 ≤ rl) (hrm : (rest.map fun v => v.category).sum ≤ 8) (hd : decode cc pc = .ok (.invokevirtual 86, 3)) (hq : pc + 3 = q) (k : VJ p l e fr rc rs rl s m args below meth c cells slots Q A cc nL R_Md (dC, dI) cA (wA ad cA) q lo (.int r :: rest) w) : VJ p l e fr rc rs rl s m args below meth c cells slots Q A cc nL R_Md (dC, dI) cA (wA ad cA) pc lo (.int b1 :: .int b0 :: .ref (ad 15) :: rest) u :=
  v_callVI (As := [.int b0, .int b1]) (rest := rest) (fun sz => c_Md_reaches l dC dI ad cA sz N b0 b1 u r w h) tw_493 tw_495 tw_22 15 (wA_15 ad cA u) rfl rfl tw_496 tw_28 2 rfl (by decide +kernel) hfr hrl rfl hrm hd hq (fun v w1 hE => by obtain ⟨rfl, rfl⟩ := hE; exact k)
theorem d_Md_settle_0 : decode b_Md_settle 0 = .ok (.aload_n 0, 1) := by decide +kernel
theorem d_Md_settle_1 : decode b_Md_settle 1 = .ok (.iload_n 1, 1) := by decide +kernel
theorem d_Md_settle_2 : decode b_Md_settle 2 = .ok (.iload_n 2, 1) := by decide +kernel
theorem d_Md_settle_3 : decode b_Md_settle 3 = .ok (.invokevirtual 86, 3) := by decide +kernel
theorem d_Md_settle_6 : decode b_Md_settle 6 = .ok (.istore_n 3, 1) := by decide +kernel
theorem d_Md_settle_7 : decode b_Md_settle 7 = .ok (.aload_n 0, 1) := by decide +kernel
theorem d_Md_settle_8 : decode b_Md_settle 8 = .ok (.getfield 22, 3) := by decide +kernel
theorem d_Md_settle_11 : decode b_Md_settle 11 = .ok (.iconst 3, 1) := by decide +kernel
theorem d_Md_settle_12 : decode b_Md_settle 12 = .ok (.iload_n 2, 1) := by decide +kernel
theorem d_Md_settle_13 : decode b_Md_settle 13 = .ok (.imul, 1) := by decide +kernel
theorem d_Md_settle_14 : decode b_Md_settle 14 = .ok (.iload_n 1, 1) := by decide +kernel
theorem d_Md_settle_15 : decode b_Md_settle 15 = .ok (.iadd, 1) := by decide +kernel
theorem d_Md_settle_16 : decode b_Md_settle 16 = .ok (.iaload, 1) := by decide +kernel
theorem d_Md_settle_17 : decode b_Md_settle 17 = .ok (.istore 4, 2) := by decide +kernel
theorem d_Md_settle_19 : decode b_Md_settle 19 = .ok (.iload_n 3, 1) := by decide +kernel
theorem d_Md_settle_20 : decode b_Md_settle 20 = .ok (.ifCond .ge 17, 3) := by decide +kernel
theorem d_Md_settle_23 : decode b_Md_settle 23 = .ok (.aload_n 0, 1) := by decide +kernel
theorem d_Md_settle_24 : decode b_Md_settle 24 = .ok (.getfield 22, 3) := by decide +kernel
theorem d_Md_settle_27 : decode b_Md_settle 27 = .ok (.iconst 3, 1) := by decide +kernel
theorem d_Md_settle_28 : decode b_Md_settle 28 = .ok (.iload_n 2, 1) := by decide +kernel
theorem d_Md_settle_29 : decode b_Md_settle 29 = .ok (.imul, 1) := by decide +kernel
theorem d_Md_settle_30 : decode b_Md_settle 30 = .ok (.iload_n 1, 1) := by decide +kernel
theorem d_Md_settle_31 : decode b_Md_settle 31 = .ok (.iadd, 1) := by decide +kernel
theorem d_Md_settle_32 : decode b_Md_settle 32 = .ok (.iconst 0, 1) := by decide +kernel
theorem d_Md_settle_33 : decode b_Md_settle 33 = .ok (.iastore, 1) := by decide +kernel
theorem d_Md_settle_34 : decode b_Md_settle 34 = .ok (.goto 85, 3) := by decide +kernel
theorem d_Md_settle_37 : decode b_Md_settle 37 = .ok (.iload_n 3, 1) := by decide +kernel
theorem d_Md_settle_38 : decode b_Md_settle 38 = .ok (.iload 4, 2) := by decide +kernel
theorem d_Md_settle_40 : decode b_Md_settle 40 = .ok (.if_icmp .le 79, 3) := by decide +kernel
theorem d_Md_settle_43 : decode b_Md_settle 43 = .ok (.aload_n 0, 1) := by decide +kernel
theorem d_Md_settle_44 : decode b_Md_settle 44 = .ok (.getfield 22, 3) := by decide +kernel
theorem d_Md_settle_47 : decode b_Md_settle 47 = .ok (.iconst 3, 1) := by decide +kernel
theorem d_Md_settle_48 : decode b_Md_settle 48 = .ok (.iload_n 2, 1) := by decide +kernel
theorem d_Md_settle_49 : decode b_Md_settle 49 = .ok (.imul, 1) := by decide +kernel
theorem d_Md_settle_50 : decode b_Md_settle 50 = .ok (.iload_n 1, 1) := by decide +kernel
theorem d_Md_settle_51 : decode b_Md_settle 51 = .ok (.iadd, 1) := by decide +kernel
theorem d_Md_settle_52 : decode b_Md_settle 52 = .ok (.iload_n 3, 1) := by decide +kernel
theorem d_Md_settle_53 : decode b_Md_settle 53 = .ok (.iastore, 1) := by decide +kernel
theorem d_Md_settle_54 : decode b_Md_settle 54 = .ok (.aload_n 0, 1) := by decide +kernel
theorem d_Md_settle_55 : decode b_Md_settle 55 = .ok (.getfield 31, 3) := by decide +kernel
theorem d_Md_settle_58 : decode b_Md_settle 58 = .ok (.iconst 4, 1) := by decide +kernel
theorem d_Md_settle_59 : decode b_Md_settle 59 = .ok (.aload_n 0, 1) := by decide +kernel
theorem d_Md_settle_60 : decode b_Md_settle 60 = .ok (.getfield 74, 3) := by decide +kernel
theorem d_Md_settle_63 : decode b_Md_settle 63 = .ok (.imul, 1) := by decide +kernel
theorem d_Md_settle_64 : decode b_Md_settle 64 = .ok (.iload_n 1, 1) := by decide +kernel
theorem d_Md_settle_65 : decode b_Md_settle 65 = .ok (.iastore, 1) := by decide +kernel
theorem d_Md_settle_66 : decode b_Md_settle 66 = .ok (.aload_n 0, 1) := by decide +kernel
theorem d_Md_settle_67 : decode b_Md_settle 67 = .ok (.getfield 31, 3) := by decide +kernel
theorem d_Md_settle_70 : decode b_Md_settle 70 = .ok (.iconst 4, 1) := by decide +kernel
theorem d_Md_settle_71 : decode b_Md_settle 71 = .ok (.aload_n 0, 1) := by decide +kernel
theorem d_Md_settle_72 : decode b_Md_settle 72 = .ok (.getfield 74, 3) := by decide +kernel
theorem d_Md_settle_75 : decode b_Md_settle 75 = .ok (.imul, 1) := by decide +kernel
theorem d_Md_settle_76 : decode b_Md_settle 76 = .ok (.iconst 1, 1) := by decide +kernel
theorem d_Md_settle_77 : decode b_Md_settle 77 = .ok (.iadd, 1) := by decide +kernel
theorem d_Md_settle_78 : decode b_Md_settle 78 = .ok (.iload_n 2, 1) := by decide +kernel
theorem d_Md_settle_79 : decode b_Md_settle 79 = .ok (.iastore, 1) := by decide +kernel
theorem d_Md_settle_80 : decode b_Md_settle 80 = .ok (.aload_n 0, 1) := by decide +kernel
theorem d_Md_settle_81 : decode b_Md_settle 81 = .ok (.getfield 31, 3) := by decide +kernel
theorem d_Md_settle_84 : decode b_Md_settle 84 = .ok (.iconst 4, 1) := by decide +kernel
theorem d_Md_settle_85 : decode b_Md_settle 85 = .ok (.aload_n 0, 1) := by decide +kernel
theorem d_Md_settle_86 : decode b_Md_settle 86 = .ok (.getfield 74, 3) := by decide +kernel
theorem d_Md_settle_89 : decode b_Md_settle 89 = .ok (.imul, 1) := by decide +kernel
theorem d_Md_settle_90 : decode b_Md_settle 90 = .ok (.iconst 2, 1) := by decide +kernel
theorem d_Md_settle_91 : decode b_Md_settle 91 = .ok (.iadd, 1) := by decide +kernel
theorem d_Md_settle_92 : decode b_Md_settle 92 = .ok (.iload_n 3, 1) := by decide +kernel
theorem d_Md_settle_93 : decode b_Md_settle 93 = .ok (.iastore, 1) := by decide +kernel
theorem d_Md_settle_94 : decode b_Md_settle 94 = .ok (.aload_n 0, 1) := by decide +kernel
theorem d_Md_settle_95 : decode b_Md_settle 95 = .ok (.getfield 31, 3) := by decide +kernel
theorem d_Md_settle_98 : decode b_Md_settle 98 = .ok (.iconst 4, 1) := by decide +kernel
theorem d_Md_settle_99 : decode b_Md_settle 99 = .ok (.aload_n 0, 1) := by decide +kernel
theorem d_Md_settle_100 : decode b_Md_settle 100 = .ok (.getfield 74, 3) := by decide +kernel
theorem d_Md_settle_103 : decode b_Md_settle 103 = .ok (.imul, 1) := by decide +kernel
theorem d_Md_settle_104 : decode b_Md_settle 104 = .ok (.iconst 3, 1) := by decide +kernel
theorem d_Md_settle_105 : decode b_Md_settle 105 = .ok (.iadd, 1) := by decide +kernel
theorem d_Md_settle_106 : decode b_Md_settle 106 = .ok (.iload 4, 2) := by decide +kernel
theorem d_Md_settle_108 : decode b_Md_settle 108 = .ok (.iastore, 1) := by decide +kernel
theorem d_Md_settle_109 : decode b_Md_settle 109 = .ok (.aload_n 0, 1) := by decide +kernel
theorem d_Md_settle_110 : decode b_Md_settle 110 = .ok (.dup, 1) := by decide +kernel
theorem d_Md_settle_111 : decode b_Md_settle 111 = .ok (.getfield 74, 3) := by decide +kernel
theorem d_Md_settle_114 : decode b_Md_settle 114 = .ok (.iconst 1, 1) := by decide +kernel
theorem d_Md_settle_115 : decode b_Md_settle 115 = .ok (.iadd, 1) := by decide +kernel
theorem d_Md_settle_116 : decode b_Md_settle 116 = .ok (.putfield 74, 3) := by decide +kernel
theorem d_Md_settle_119 : decode b_Md_settle 119 = .ok (.return_, 1) := by decide +kernel
set_option maxHeartbeats 4000000 in
set_option maxRecDepth 100000 in
theorem c_Md_settle (l : Launch) (dC : Nat → ClassId) (dI : Nat → Nat → Nat) (ad : Nat → Nat) (cA : ClassId) (sz : Nat) (N : Nat) (a1 a2 : Int32) (u : Mem) (r : Int32) (w : Mem) (h : f_Md_settle N a1 a2 u = some (r, w)) : CtV l y_Md_settle (Cond.code y_Md_settle b_Md_settle 5 none :: lw_gd) 2 47 (dC, dI) cA [.ref (ad 15), .int a1, .int a2] (wA ad cA) u sz (fun w1 => w1 = w) := by
  refine v_metV (own := R_Md) [some (.ref (ad 15)), some (.int a1), some (.int a2), none, none] rfl (by decide) (Nat.le_of_ble_eq_true rfl) rfl rfl ?_
  intro p e s m args below meth c A Q ret
  unfold f_Md_settle at h
  refine v_aload_n d_Md_settle_0 rfl rfl ?_
  refine v_iload_n d_Md_settle_1 rfl rfl ?_
  refine v_iload_n d_Md_settle_2 rfl rfl ?_
  obtain ⟨y1, u2, hc3, h⟩ := bd_inv h
  refine vc_Md_Md_reaches hc3 (Nat.le_of_ble_eq_true rfl) (Nat.le_of_ble_eq_true rfl) (Nat.le_of_ble_eq_true rfl) d_Md_settle_3 rfl ?_
  refine v_istore_n (lo' := [_, _, _, _, none]) d_Md_settle_6 rfl (by decide) rfl ?_
  refine v_aload_n d_Md_settle_7 rfl rfl ?_
  refine vg_Md_exitOf d_Md_settle_8 rfl ?_
  refine v_iconst 3 d_Md_settle_11 (by decide) rfl ?_
  refine v_iload_n d_Md_settle_12 rfl rfl ?_
  refine v_imul d_Md_settle_13 rfl ?_
  refine v_iload_n d_Md_settle_14 rfl rfl ?_
  refine v_iadd d_Md_settle_15 rfl ?_
  obtain ⟨g4, h⟩ := gd_inv h
  refine v_ald 20 (wA_20 ad cA _) d_Md_settle_16 g4 rfl ?_
  refine v_istore (lo' := [_, _, _, _, _]) d_Md_settle_17 rfl (by decide) rfl ?_
  refine v_iload_n d_Md_settle_19 rfl rfl ?_
  refine v_if_ge 37 d_Md_settle_20 (by decide) rfl (fun c19 => ?_) (fun c19 => ?_)
  · replace h := (if_pos c19).symm.trans h
    refine v_iload_n d_Md_settle_37 rfl rfl ?_
    refine v_iload d_Md_settle_38 rfl rfl ?_
    refine v_icmp_le 119 d_Md_settle_40 (by decide) rfl (fun c16 => ?_) (fun c16 => ?_)
    · replace h := (if_pos c16).symm.trans h
      obtain ⟨-, e2⟩ := rt_inv h
      exact ret _ _ _ e2 d_Md_settle_119
    · replace h := (if_neg c16).symm.trans h
      refine v_aload_n d_Md_settle_43 rfl rfl ?_
      refine vg_Md_exitOf d_Md_settle_44 rfl ?_
      refine v_iconst 3 d_Md_settle_47 (by decide) rfl ?_
      refine v_iload_n d_Md_settle_48 rfl rfl ?_
      refine v_imul d_Md_settle_49 rfl ?_
      refine v_iload_n d_Md_settle_50 rfl rfl ?_
      refine v_iadd d_Md_settle_51 rfl ?_
      refine v_iload_n d_Md_settle_52 rfl rfl ?_
      obtain ⟨g5, h⟩ := gd_inv h
      obtain ⟨u6, eu6, h⟩ := jn_inv h
      refine v_ast 20 (wA_20 ad cA _) (ws_20 ad cA _ _ _) eu6 d_Md_settle_53 g5 rfl ?_
      refine v_aload_n d_Md_settle_54 rfl rfl ?_
      refine vg_Md_post d_Md_settle_55 rfl ?_
      refine v_iconst 4 d_Md_settle_58 (by decide) rfl ?_
      refine v_aload_n d_Md_settle_59 rfl rfl ?_
      refine vg_Md_sent d_Md_settle_60 rfl ?_
      refine v_imul d_Md_settle_63 rfl ?_
      refine v_iload_n d_Md_settle_64 rfl rfl ?_
      obtain ⟨g7, h⟩ := gd_inv h
      obtain ⟨u8, eu8, h⟩ := jn_inv h
      refine v_ast 23 (wA_23 ad cA _) (ws_23 ad cA _ _ _) eu8 d_Md_settle_65 g7 rfl ?_
      refine v_aload_n d_Md_settle_66 rfl rfl ?_
      refine vg_Md_post d_Md_settle_67 rfl ?_
      refine v_iconst 4 d_Md_settle_70 (by decide) rfl ?_
      refine v_aload_n d_Md_settle_71 rfl rfl ?_
      refine vg_Md_sent d_Md_settle_72 rfl ?_
      refine v_imul d_Md_settle_75 rfl ?_
      refine v_iconst 1 d_Md_settle_76 (by decide) rfl ?_
      refine v_iadd d_Md_settle_77 rfl ?_
      refine v_iload_n d_Md_settle_78 rfl rfl ?_
      obtain ⟨g9, h⟩ := gd_inv h
      obtain ⟨u10, eu10, h⟩ := jn_inv h
      refine v_ast 23 (wA_23 ad cA _) (ws_23 ad cA _ _ _) eu10 d_Md_settle_79 g9 rfl ?_
      refine v_aload_n d_Md_settle_80 rfl rfl ?_
      refine vg_Md_post d_Md_settle_81 rfl ?_
      refine v_iconst 4 d_Md_settle_84 (by decide) rfl ?_
      refine v_aload_n d_Md_settle_85 rfl rfl ?_
      refine vg_Md_sent d_Md_settle_86 rfl ?_
      refine v_imul d_Md_settle_89 rfl ?_
      refine v_iconst 2 d_Md_settle_90 (by decide) rfl ?_
      refine v_iadd d_Md_settle_91 rfl ?_
      refine v_iload_n d_Md_settle_92 rfl rfl ?_
      obtain ⟨g11, h⟩ := gd_inv h
      obtain ⟨u12, eu12, h⟩ := jn_inv h
      refine v_ast 23 (wA_23 ad cA _) (ws_23 ad cA _ _ _) eu12 d_Md_settle_93 g11 rfl ?_
      refine v_aload_n d_Md_settle_94 rfl rfl ?_
      refine vg_Md_post d_Md_settle_95 rfl ?_
      refine v_iconst 4 d_Md_settle_98 (by decide) rfl ?_
      refine v_aload_n d_Md_settle_99 rfl rfl ?_
      refine vg_Md_sent d_Md_settle_100 rfl ?_
      refine v_imul d_Md_settle_103 rfl ?_
      refine v_iconst 3 d_Md_settle_104 (by decide) rfl ?_
      refine v_iadd d_Md_settle_105 rfl ?_
      refine v_iload d_Md_settle_106 rfl rfl ?_
      obtain ⟨g13, h⟩ := gd_inv h
      obtain ⟨u14, eu14, h⟩ := jn_inv h
      refine v_ast 23 (wA_23 ad cA _) (ws_23 ad cA _ _ _) eu14 d_Md_settle_108 g13 rfl ?_
      refine v_aload_n d_Md_settle_109 rfl rfl ?_
      refine v_dup d_Md_settle_110 rfl rfl ?_
      refine vg_Md_sent d_Md_settle_111 rfl ?_
      refine v_iconst 1 d_Md_settle_114 (by decide) rfl ?_
      refine v_iadd d_Md_settle_115 rfl ?_
      obtain ⟨u15, eu15, h⟩ := jn_inv h
      refine vp_Md_sent eu15 d_Md_settle_116 rfl ?_
      obtain ⟨-, e2⟩ := rt_inv h
      exact ret _ _ _ e2 d_Md_settle_119
  · replace h := (if_neg c19).symm.trans h
    refine v_aload_n d_Md_settle_23 rfl rfl ?_
    refine vg_Md_exitOf d_Md_settle_24 rfl ?_
    refine v_iconst 3 d_Md_settle_27 (by decide) rfl ?_
    refine v_iload_n d_Md_settle_28 rfl rfl ?_
    refine v_imul d_Md_settle_29 rfl ?_
    refine v_iload_n d_Md_settle_30 rfl rfl ?_
    refine v_iadd d_Md_settle_31 rfl ?_
    refine v_iconst 0 d_Md_settle_32 (by decide) rfl ?_
    obtain ⟨g17, h⟩ := gd_inv h
    obtain ⟨u18, eu18, h⟩ := jn_inv h
    refine v_ast 20 (wA_20 ad cA _) (ws_20 ad cA _ _ _) eu18 d_Md_settle_33 g17 rfl ?_
    refine v_goto 119 d_Md_settle_34 (by decide) ?_
    obtain ⟨-, e2⟩ := rt_inv h
    exact ret _ _ _ e2 d_Md_settle_119
theorem vc_Md_Md_settle {p : Program} {l : Launch} {e : Env} {fr rc rs rl : Nat} {s : State} {m : MethodId} {args : Array Value} {below : List Frame} {meth : Method} {c : Code} {cells slots : Nat} {Q : State → Prop} {A : Nat → Prop} {cc : ByteArray} {nL : Nat} {dC : Nat → ClassId} {dI : Nat → Nat → Nat} {cA : ClassId} {ad : Nat → Nat} {pc q : Nat} {lo : List (Option Value)} {rest : List Value} {u w : Mem} {r : Int32} {N : Nat} {b0 b1 : Int32} (h : f_Md_settle N b0 b1 u = some (r, w)) (hfr : 2 + 1 ≤ fr) (hrl : 8 + (5 + 11) + 47 ≤ rl) (hrm : (rest.map fun v => v.category).sum ≤ 8) (hd : decode cc pc = .ok (.invokevirtual 83, 3)) (hq : pc + 3 = q) (k : VJ p l e fr rc rs rl s m args below meth c cells slots Q A cc nL R_Md (dC, dI) cA (wA ad cA) q lo rest w) : VJ p l e fr rc rs rl s m args below meth c cells slots Q A cc nL R_Md (dC, dI) cA (wA ad cA) pc lo (.int b1 :: .int b0 :: .ref (ad 15) :: rest) u :=
  v_callVV (As := [.int b0, .int b1]) (rest := rest) (fun sz => c_Md_settle l dC dI ad cA sz N b0 b1 u r w h) tw_489 tw_491 tw_21 15 (wA_15 ad cA u) rfl rfl tw_492 tw_28 2 rfl (by decide +kernel) hfr hrl rfl hrm hd hq (fun w1 hE => by subst hE; exact k)
