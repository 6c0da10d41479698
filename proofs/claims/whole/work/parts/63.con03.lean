/-! Contracts. -/
theorem d_Sh_collect_0 : decode b_Sh_collect 0 = .ok (.iload_n 1, 1) := by decide +kernel
theorem d_Sh_collect_1 : decode b_Sh_collect 1 = .ok (.invokestatic 48, 3) := by decide +kernel
theorem d_Sh_collect_4 : decode b_Sh_collect 4 = .ok (.ifCond .eq 24, 3) := by decide +kernel
theorem d_Sh_collect_7 : decode b_Sh_collect 7 = .ok (.aload_n 0, 1) := by decide +kernel
theorem d_Sh_collect_8 : decode b_Sh_collect 8 = .ok (.getfield 30, 3) := by decide +kernel
theorem d_Sh_collect_11 : decode b_Sh_collect 11 = .ok (.invokevirtual 83, 3) := by decide +kernel
theorem d_Sh_collect_14 : decode b_Sh_collect 14 = .ok (.aload_n 0, 1) := by decide +kernel
theorem d_Sh_collect_15 : decode b_Sh_collect 15 = .ok (.getfield 23, 3) := by decide +kernel
theorem d_Sh_collect_18 : decode b_Sh_collect 18 = .ok (.iload_n 1, 1) := by decide +kernel
theorem d_Sh_collect_19 : decode b_Sh_collect 19 = .ok (.invokevirtual 87, 3) := by decide +kernel
theorem d_Sh_collect_22 : decode b_Sh_collect 22 = .ok (.iadd, 1) := by decide +kernel
theorem d_Sh_collect_23 : decode b_Sh_collect 23 = .ok (.bipush 40, 2) := by decide +kernel
theorem d_Sh_collect_25 : decode b_Sh_collect 25 = .ok (.if_icmp .le 5, 3) := by decide +kernel
theorem d_Sh_collect_28 : decode b_Sh_collect 28 = .ok (.iconst (-1), 1) := by decide +kernel
theorem d_Sh_collect_29 : decode b_Sh_collect 29 = .ok (.ireturn, 1) := by decide +kernel
theorem d_Sh_collect_30 : decode b_Sh_collect 30 = .ok (.aload_n 0, 1) := by decide +kernel
theorem d_Sh_collect_31 : decode b_Sh_collect 31 = .ok (.dup, 1) := by decide +kernel
theorem d_Sh_collect_32 : decode b_Sh_collect 32 = .ok (.getfield 56, 3) := by decide +kernel
theorem d_Sh_collect_35 : decode b_Sh_collect 35 = .ok (.iconst 1, 1) := by decide +kernel
theorem d_Sh_collect_36 : decode b_Sh_collect 36 = .ok (.iadd, 1) := by decide +kernel
theorem d_Sh_collect_37 : decode b_Sh_collect 37 = .ok (.putfield 56, 3) := by decide +kernel
theorem d_Sh_collect_40 : decode b_Sh_collect 40 = .ok (.aload_n 0, 1) := by decide +kernel
theorem d_Sh_collect_41 : decode b_Sh_collect 41 = .ok (.iload_n 1, 1) := by decide +kernel
theorem d_Sh_collect_42 : decode b_Sh_collect 42 = .ok (.invokevirtual 90, 3) := by decide +kernel
theorem d_Sh_collect_45 : decode b_Sh_collect 45 = .ok (.aload_n 0, 1) := by decide +kernel
theorem d_Sh_collect_46 : decode b_Sh_collect 46 = .ok (.iload_n 1, 1) := by decide +kernel
theorem d_Sh_collect_47 : decode b_Sh_collect 47 = .ok (.invokevirtual 94, 3) := by decide +kernel
theorem d_Sh_collect_50 : decode b_Sh_collect 50 = .ok (.aload_n 0, 1) := by decide +kernel
theorem d_Sh_collect_51 : decode b_Sh_collect 51 = .ok (.iload_n 1, 1) := by decide +kernel
theorem d_Sh_collect_52 : decode b_Sh_collect 52 = .ok (.invokevirtual 97, 3) := by decide +kernel
theorem d_Sh_collect_55 : decode b_Sh_collect 55 = .ok (.aload_n 0, 1) := by decide +kernel
theorem d_Sh_collect_56 : decode b_Sh_collect 56 = .ok (.iload_n 1, 1) := by decide +kernel
theorem d_Sh_collect_57 : decode b_Sh_collect 57 = .ok (.invokevirtual 100, 3) := by decide +kernel
theorem d_Sh_collect_60 : decode b_Sh_collect 60 = .ok (.aload_n 0, 1) := by decide +kernel
theorem d_Sh_collect_61 : decode b_Sh_collect 61 = .ok (.iload_n 1, 1) := by decide +kernel
theorem d_Sh_collect_62 : decode b_Sh_collect 62 = .ok (.invokevirtual 103, 3) := by decide +kernel
theorem d_Sh_collect_65 : decode b_Sh_collect 65 = .ok (.istore_n 2, 1) := by decide +kernel
theorem d_Sh_collect_66 : decode b_Sh_collect 66 = .ok (.aload_n 0, 1) := by decide +kernel
theorem d_Sh_collect_67 : decode b_Sh_collect 67 = .ok (.getfield 34, 3) := by decide +kernel
theorem d_Sh_collect_70 : decode b_Sh_collect 70 = .ok (.iload_n 1, 1) := by decide +kernel
theorem d_Sh_collect_71 : decode b_Sh_collect 71 = .ok (.aload_n 0, 1) := by decide +kernel
theorem d_Sh_collect_72 : decode b_Sh_collect 72 = .ok (.getfield 56, 3) := by decide +kernel
theorem d_Sh_collect_75 : decode b_Sh_collect 75 = .ok (.iastore, 1) := by decide +kernel
theorem d_Sh_collect_76 : decode b_Sh_collect 76 = .ok (.aload_n 0, 1) := by decide +kernel
theorem d_Sh_collect_77 : decode b_Sh_collect 77 = .ok (.getfield 37, 3) := by decide +kernel
theorem d_Sh_collect_80 : decode b_Sh_collect 80 = .ok (.iload_n 1, 1) := by decide +kernel
theorem d_Sh_collect_81 : decode b_Sh_collect 81 = .ok (.ldc 43, 2) := by decide +kernel
theorem d_Sh_collect_83 : decode b_Sh_collect 83 = .ok (.iastore, 1) := by decide +kernel
theorem d_Sh_collect_84 : decode b_Sh_collect 84 = .ok (.iload_n 2, 1) := by decide +kernel
theorem d_Sh_collect_85 : decode b_Sh_collect 85 = .ok (.ireturn, 1) := by decide +kernel
set_option maxHeartbeats 4000000 in
set_option maxRecDepth 100000 in
theorem c_Sh_collect (l : Launch) (dC : Nat → ClassId) (dI : Nat → Nat → Nat) (ad : Nat → Nat) (cA : ClassId) (sz : Nat) (N : Nat) (a1 : Int32) (u : Mem) (r : Int32) (w : Mem) (h : f_Sh_collect N a1 u = some (r, w)) : CtI l y_Sh_collect (Cond.code y_Sh_collect b_Sh_collect 3 (some .int) :: lw_gd) 5 116 (dC, dI) cA [.ref (ad 0), .int a1] (wA ad cA) u sz (fun v w1 => v = r ∧ w1 = w) := by
  refine v_metI (own := R_Sh) [some (.ref (ad 0)), some (.int a1), none] rfl (by decide) (Nat.le_of_ble_eq_true rfl) rfl rfl (fun v u h => rfl) ?_
  intro p e s m args below meth c A Q ret
  unfold f_Sh_collect at h
  refine v_iload_n d_Sh_collect_0 rfl rfl ?_
  obtain ⟨y1, u2, hc3, h⟩ := bd_inv h
  refine vc_Sh_Sh_isNode hc3 (Nat.le_of_ble_eq_true rfl) (Nat.le_of_ble_eq_true rfl) (Nat.le_of_ble_eq_true rfl) d_Sh_collect_1 rfl ?_
  refine v_if_eq 28 d_Sh_collect_4 (by decide) rfl (fun c31 => ?_) (fun c31 => ?_)
  · replace h := (if_pos c31).symm.trans h
    refine v_iconst (-1) d_Sh_collect_28 (by decide) rfl ?_
    obtain ⟨e1, e2⟩ := rt_inv h
    exact ret _ _ _ _ ⟨e1, e2⟩ d_Sh_collect_29
  · replace h := (if_neg c31).symm.trans h
    refine v_aload_n d_Sh_collect_7 rfl rfl ?_
    refine vg_Sh_queue d_Sh_collect_8 rfl ?_
    obtain ⟨y4, u5, hc6, h⟩ := bd_inv h
    refine vc_Sh_Qu_size hc6 (Nat.le_of_ble_eq_true rfl) (Nat.le_of_ble_eq_true rfl) (Nat.le_of_ble_eq_true rfl) d_Sh_collect_11 rfl ?_
    refine v_aload_n d_Sh_collect_14 rfl rfl ?_
    refine vg_Sh_exits d_Sh_collect_15 rfl ?_
    refine v_iload_n d_Sh_collect_18 rfl rfl ?_
    obtain ⟨y7, u8, hc9, h⟩ := bd_inv h
    refine vc_Sh_Xt_countOf hc9 (Nat.le_of_ble_eq_true rfl) (Nat.le_of_ble_eq_true rfl) (Nat.le_of_ble_eq_true rfl) d_Sh_collect_19 rfl ?_
    refine v_iadd d_Sh_collect_22 rfl ?_
    refine v_bipush 40 d_Sh_collect_23 (by decide) rfl ?_
    refine v_icmp_le 30 d_Sh_collect_25 (by decide) rfl (fun c30 => ?_) (fun c30 => ?_)
    · replace h := (if_pos c30).symm.trans h
      refine v_aload_n d_Sh_collect_30 rfl rfl ?_
      refine v_dup d_Sh_collect_31 rfl rfl ?_
      refine vg_Sh_clock d_Sh_collect_32 rfl ?_
      refine v_iconst 1 d_Sh_collect_35 (by decide) rfl ?_
      refine v_iadd d_Sh_collect_36 rfl ?_
      obtain ⟨u10, eu10, h⟩ := jn_inv h
      refine vp_Sh_clock eu10 d_Sh_collect_37 rfl ?_
      refine v_aload_n d_Sh_collect_40 rfl rfl ?_
      refine v_iload_n d_Sh_collect_41 rfl rfl ?_
      obtain ⟨_y11, u12, hc13, h⟩ := bd_inv h
      refine vc_Sh_Sh_reachFromRootsAndEntries hc13 (Nat.le_of_ble_eq_true rfl) (Nat.le_of_ble_eq_true rfl) (Nat.le_of_ble_eq_true rfl) d_Sh_collect_42 rfl ?_
      refine v_aload_n d_Sh_collect_45 rfl rfl ?_
      refine v_iload_n d_Sh_collect_46 rfl rfl ?_
      obtain ⟨_y14, u15, hc16, h⟩ := bd_inv h
      refine vc_Sh_Sh_reachAlongFields hc16 (Nat.le_of_ble_eq_true rfl) (Nat.le_of_ble_eq_true rfl) (Nat.le_of_ble_eq_true rfl) d_Sh_collect_47 rfl ?_
      refine v_aload_n d_Sh_collect_50 rfl rfl ?_
      refine v_iload_n d_Sh_collect_51 rfl rfl ?_
      obtain ⟨_y17, u18, hc19, h⟩ := bd_inv h
      refine vc_Sh_Sh_takeUnreachedExits hc19 (Nat.le_of_ble_eq_true rfl) (Nat.le_of_ble_eq_true rfl) (Nat.le_of_ble_eq_true rfl) d_Sh_collect_52 rfl ?_
      refine v_aload_n d_Sh_collect_55 rfl rfl ?_
      refine v_iload_n d_Sh_collect_56 rfl rfl ?_
      obtain ⟨_y20, u21, hc22, h⟩ := bd_inv h
      refine vc_Sh_Sh_stampReachedExits hc22 (Nat.le_of_ble_eq_true rfl) (Nat.le_of_ble_eq_true rfl) (Nat.le_of_ble_eq_true rfl) d_Sh_collect_57 rfl ?_
      refine v_aload_n d_Sh_collect_60 rfl rfl ?_
      refine v_iload_n d_Sh_collect_61 rfl rfl ?_
      obtain ⟨y23, u24, hc25, h⟩ := bd_inv h
      refine vc_Sh_Sh_freeUnreached hc25 (Nat.le_of_ble_eq_true rfl) (Nat.le_of_ble_eq_true rfl) (Nat.le_of_ble_eq_true rfl) d_Sh_collect_62 rfl ?_
      refine v_istore_n (lo' := [_, _, _]) d_Sh_collect_65 rfl (by decide) rfl ?_
      refine v_aload_n d_Sh_collect_66 rfl rfl ?_
      refine vg_Sh_lasts d_Sh_collect_67 rfl ?_
      refine v_iload_n d_Sh_collect_70 rfl rfl ?_
      refine v_aload_n d_Sh_collect_71 rfl rfl ?_
      refine vg_Sh_clock d_Sh_collect_72 rfl ?_
      obtain ⟨g26, h⟩ := gd_inv h
      obtain ⟨u27, eu27, h⟩ := jn_inv h
      refine v_ast 12 (wA_12 ad cA _) (ws_12 ad cA _ _ _) eu27 d_Sh_collect_75 g26 rfl ?_
      refine v_aload_n d_Sh_collect_76 rfl rfl ?_
      refine vg_Sh_lows d_Sh_collect_77 rfl ?_
      refine v_iload_n d_Sh_collect_80 rfl rfl ?_
      refine v_ldc tw_90 d_Sh_collect_81 rfl ?_
      obtain ⟨g28, h⟩ := gd_inv h
      obtain ⟨u29, eu29, h⟩ := jn_inv h
      refine v_ast 13 (wA_13 ad cA _) (ws_13 ad cA _ _ _) eu29 d_Sh_collect_83 g28 rfl ?_
      refine v_iload_n d_Sh_collect_84 rfl rfl ?_
      obtain ⟨e1, e2⟩ := rt_inv h
      exact ret _ _ _ _ ⟨e1, e2⟩ d_Sh_collect_85
    · replace h := (if_neg c30).symm.trans h
      refine v_iconst (-1) d_Sh_collect_28 (by decide) rfl ?_
      obtain ⟨e1, e2⟩ := rt_inv h
      exact ret _ _ _ _ ⟨e1, e2⟩ d_Sh_collect_29
theorem vc_La_Sh_collect {p : Program} {l : Launch} {e : Env} {fr rc rs rl : Nat} {s : State} {m : MethodId} {args : Array Value} {below : List Frame} {meth : Method} {c : Code} {cells slots : Nat} {Q : State → Prop} {A : Nat → Prop} {cc : ByteArray} {nL : Nat} {dC : Nat → ClassId} {dI : Nat → Nat → Nat} {cA : ClassId} {ad : Nat → Nat} {pc q : Nat} {lo : List (Option Value)} {rest : List Value} {u w : Mem} {r : Int32} {N : Nat} {b0 : Int32} (h : f_Sh_collect N b0 u = some (r, w)) (hfr : 5 + 1 ≤ fr) (hrl : 8 + (3 + 11) + 116 ≤ rl) (hrm : (rest.map fun v => v.category).sum ≤ 8) (hd : decode cc pc = .ok (.invokevirtual 37, 3)) (hq : pc + 3 = q) (k : VJ p l e fr rc rs rl s m args below meth c cells slots Q A cc nL R_La (dC, dI) cA (wA ad cA) q lo (.int r :: rest) w) : VJ p l e fr rc rs rl s m args below meth c cells slots Q A cc nL R_La (dC, dI) cA (wA ad cA) pc lo (.int b0 :: .ref (ad 0) :: rest) u :=
  v_callVI (As := [.int b0]) (rest := rest) (fun sz => c_Sh_collect l dC dI ad cA sz N b0 u r w h) tw_214 tw_215 tw_216 0 (wA_0 ad cA u) rfl rfl tw_217 tw_24 1 rfl (by decide +kernel) hfr hrl rfl hrm hd hq (fun v w1 hE => by obtain ⟨rfl, rfl⟩ := hE; exact k)
theorem d_Qu_has_0 : decode b_Qu_has 0 = .ok (.iload_n 1, 1) := by decide +kernel
theorem d_Qu_has_1 : decode b_Qu_has 1 = .ok (.ifCond .lt 15, 3) := by decide +kernel
theorem d_Qu_has_4 : decode b_Qu_has 4 = .ok (.iload_n 1, 1) := by decide +kernel
theorem d_Qu_has_5 : decode b_Qu_has 5 = .ok (.aload_n 0, 1) := by decide +kernel
theorem d_Qu_has_6 : decode b_Qu_has 6 = .ok (.getfield 15, 3) := by decide +kernel
theorem d_Qu_has_9 : decode b_Qu_has 9 = .ok (.if_icmp .ge 7, 3) := by decide +kernel
theorem d_Qu_has_12 : decode b_Qu_has 12 = .ok (.iconst 1, 1) := by decide +kernel
theorem d_Qu_has_13 : decode b_Qu_has 13 = .ok (.goto 4, 3) := by decide +kernel
theorem d_Qu_has_16 : decode b_Qu_has 16 = .ok (.iconst 0, 1) := by decide +kernel
theorem d_Qu_has_17 : decode b_Qu_has 17 = .ok (.ireturn, 1) := by decide +kernel
set_option maxHeartbeats 4000000 in
set_option maxRecDepth 100000 in
theorem c_Qu_has (l : Launch) (dC : Nat → ClassId) (dI : Nat → Nat → Nat) (ad : Nat → Nat) (cA : ClassId) (sz : Nat) (N : Nat) (a1 : Int32) (u : Mem) (r : Int32) (w : Mem) (h : f_Qu_has N a1 u = some (r, w)) : CtI l y_Qu_has (Cond.code y_Qu_has b_Qu_has 2 (some .boolean) :: lw_gd) 0 0 (dC, dI) cA [.ref (ad 10), .int a1] (wA ad cA) u sz (fun v w1 => v = r ∧ w1 = w ∧ (v = 0 ∨ v = 1)) := by
  refine v_metI (own := R_Qu) [some (.ref (ad 10)), some (.int a1)] rfl (by decide) (Nat.le_of_ble_eq_true rfl) rfl rfl (fun v u h => by rcases h.2.2 with h | h <;> rw [h] <;> rfl) ?_
  intro p e s m args below meth c A Q ret
  unfold f_Qu_has at h
  refine v_iload_n d_Qu_has_0 rfl rfl ?_
  refine v_if_lt 16 d_Qu_has_1 (by decide) rfl (fun c2 => ?_) (fun c2 => ?_)
  · replace h := (if_pos c2).symm.trans h
    refine v_iconst 0 d_Qu_has_16 (by decide) rfl ?_
    obtain ⟨e1, e2⟩ := rt_inv h
    exact ret _ _ _ _ ⟨e1, e2, Or.inl rfl⟩ d_Qu_has_17
  · replace h := (if_neg c2).symm.trans h
    refine v_iload_n d_Qu_has_4 rfl rfl ?_
    refine v_aload_n d_Qu_has_5 rfl rfl ?_
    refine vg_Qu_size d_Qu_has_6 rfl ?_
    refine v_icmp_ge 16 d_Qu_has_9 (by decide) rfl (fun c1 => ?_) (fun c1 => ?_)
    · replace h := (if_pos c1).symm.trans h
      refine v_iconst 0 d_Qu_has_16 (by decide) rfl ?_
      obtain ⟨e1, e2⟩ := rt_inv h
      exact ret _ _ _ _ ⟨e1, e2, Or.inl rfl⟩ d_Qu_has_17
    · replace h := (if_neg c1).symm.trans h
      refine v_iconst 1 d_Qu_has_12 (by decide) rfl ?_
      refine v_goto 17 d_Qu_has_13 (by decide) ?_
      obtain ⟨e1, e2⟩ := rt_inv h
      exact ret _ _ _ _ ⟨e1, e2, Or.inr rfl⟩ d_Qu_has_17
theorem vc_Sh_Qu_has {p : Program} {l : Launch} {e : Env} {fr rc rs rl : Nat} {s : State} {m : MethodId} {args : Array Value} {below : List Frame} {meth : Method} {c : Code} {cells slots : Nat} {Q : State → Prop} {A : Nat → Prop} {cc : ByteArray} {nL : Nat} {dC : Nat → ClassId} {dI : Nat → Nat → Nat} {cA : ClassId} {ad : Nat → Nat} {pc q : Nat} {lo : List (Option Value)} {rest : List Value} {u w : Mem} {r : Int32} {N : Nat} {b0 : Int32} (h : f_Qu_has N b0 u = some (r, w)) (hfr : 0 + 1 ≤ fr) (hrl : 8 + (2 + 11) + 0 ≤ rl) (hrm : (rest.map fun v => v.category).sum ≤ 8) (hd : decode cc pc = .ok (.invokevirtual 106, 3)) (hq : pc + 3 = q) (k : VJ p l e fr rc rs rl s m args below meth c cells slots Q A cc nL R_Sh (dC, dI) cA (wA ad cA) q lo (.int r :: rest) w) : VJ p l e fr rc rs rl s m args below meth c cells slots Q A cc nL R_Sh (dC, dI) cA (wA ad cA) pc lo (.int b0 :: .ref (ad 10) :: rest) u :=
  v_callVI (As := [.int b0]) (rest := rest) (fun sz => c_Qu_has l dC dI ad cA sz N b0 u r w h) tw_312 tw_313 tw_314 10 (wA_10 ad cA u) rfl rfl tw_315 tw_27 1 rfl (by decide +kernel) hfr hrl rfl hrm hd hq (fun v w1 hE => by obtain ⟨rfl, rfl, -⟩ := hE; exact k)
theorem d_Qu_part_0 : decode b_Qu_part 0 = .ok (.aload_n 0, 1) := by decide +kernel
theorem d_Qu_part_1 : decode b_Qu_part 1 = .ok (.getfield 11, 3) := by decide +kernel
theorem d_Qu_part_4 : decode b_Qu_part 4 = .ok (.iload_n 1, 1) := by decide +kernel
theorem d_Qu_part_5 : decode b_Qu_part 5 = .ok (.iconst 4, 1) := by decide +kernel
theorem d_Qu_part_6 : decode b_Qu_part 6 = .ok (.imul, 1) := by decide +kernel
theorem d_Qu_part_7 : decode b_Qu_part 7 = .ok (.iload_n 2, 1) := by decide +kernel
theorem d_Qu_part_8 : decode b_Qu_part 8 = .ok (.iadd, 1) := by decide +kernel
theorem d_Qu_part_9 : decode b_Qu_part 9 = .ok (.iaload, 1) := by decide +kernel
theorem d_Qu_part_10 : decode b_Qu_part 10 = .ok (.ireturn, 1) := by decide +kernel
set_option maxHeartbeats 4000000 in
set_option maxRecDepth 100000 in
theorem c_Qu_part (l : Launch) (dC : Nat → ClassId) (dI : Nat → Nat → Nat) (ad : Nat → Nat) (cA : ClassId) (sz : Nat) (N : Nat) (a1 a2 : Int32) (u : Mem) (r : Int32) (w : Mem) (h : f_Qu_part N a1 a2 u = some (r, w)) : CtI l y_Qu_part (Cond.code y_Qu_part b_Qu_part 3 (some .int) :: lw_gd) 0 0 (dC, dI) cA [.ref (ad 10), .int a1, .int a2] (wA ad cA) u sz (fun v w1 => v = r ∧ w1 = w) := by
  refine v_metI (own := R_Qu) [some (.ref (ad 10)), some (.int a1), some (.int a2)] rfl (by decide) (Nat.le_of_ble_eq_true rfl) rfl rfl (fun v u h => rfl) ?_
  intro p e s m args below meth c A Q ret
  unfold f_Qu_part at h
  refine v_aload_n d_Qu_part_0 rfl rfl ?_
  refine vg_Qu_parts d_Qu_part_1 rfl ?_
  refine v_iload_n d_Qu_part_4 rfl rfl ?_
  refine v_iconst 4 d_Qu_part_5 (by decide) rfl ?_
  refine v_imul d_Qu_part_6 rfl ?_
  refine v_iload_n d_Qu_part_7 rfl rfl ?_
  refine v_iadd d_Qu_part_8 rfl ?_
  obtain ⟨g1, h⟩ := gd_inv h
  refine v_ald 11 (wA_11 ad cA _) d_Qu_part_9 g1 rfl ?_
  obtain ⟨e1, e2⟩ := rt_inv h
  exact ret _ _ _ _ ⟨e1, e2⟩ d_Qu_part_10
theorem vc_Sh_Qu_part {p : Program} {l : Launch} {e : Env} {fr rc rs rl : Nat} {s : State} {m : MethodId} {args : Array Value} {below : List Frame} {meth : Method} {c : Code} {cells slots : Nat} {Q : State → Prop} {A : Nat → Prop} {cc : ByteArray} {nL : Nat} {dC : Nat → ClassId} {dI : Nat → Nat → Nat} {cA : ClassId} {ad : Nat → Nat} {pc q : Nat} {lo : List (Option Value)} {rest : List Value} {u w : Mem} {r : Int32} {N : Nat} {b0 b1 : Int32} (h : f_Qu_part N b0 b1 u = some (r, w)) (hfr : 0 + 1 ≤ fr) (hrl : 8 + (3 + 11) + 0 ≤ rl) (hrm : (rest.map fun v => v.category).sum ≤ 8) (hd : decode cc pc = .ok (.invokevirtual 109, 3)) (hq : pc + 3 = q) (k : VJ p l e fr rc rs rl s m args below meth c cells slots Q A cc nL R_Sh (dC, dI) cA (wA ad cA) q lo (.int r :: rest) w) : VJ p l e fr rc rs rl s m args below meth c cells slots Q A cc nL R_Sh (dC, dI) cA (wA ad cA) pc lo (.int b1 :: .int b0 :: .ref (ad 10) :: rest) u :=
  v_callVI (As := [.int b0, .int b1]) (rest := rest) (fun sz => c_Qu_part l dC dI ad cA sz N b0 b1 u r w h) tw_316 tw_317 tw_318 10 (wA_10 ad cA u) rfl rfl tw_319 tw_27 2 rfl (by decide +kernel) hfr hrl rfl hrm hd hq (fun v w1 hE => by obtain ⟨rfl, rfl⟩ := hE; exact k)
theorem vc_Qu_Qu_part {p : Program} {l : Launch} {e : Env} {fr rc rs rl : Nat} {s : State} {m : MethodId} {args : Array Value} {below : List Frame} {meth : Method} {c : Code} {cells slots : Nat} {Q : State → Prop} {A : Nat → Prop} {cc : ByteArray} {nL : Nat} {dC : Nat → ClassId} {dI : Nat → Nat → Nat} {cA : ClassId} {ad : Nat → Nat} {pc q : Nat} {lo : List (Option Value)} {rest : List Value} {u w : Mem} {r : Int32} {N : Nat} {b0 b1 : Int32} (h : f_Qu_part N b0 b1 u = some (r, w)) (hfr : 0 + 1 ≤ fr) (hrl : 8 + (3 + 11) + 0 ≤ rl) (hrm : (rest.map fun v => v.category).sum ≤ 8) (hd : decode cc pc = .ok (.invokevirtual 20, 3)) (hq : pc + 3 = q) (k : VJ p l e fr rc rs rl s m args below meth c cells slots Q A cc nL R_Qu (dC, dI) cA (wA ad cA) q lo (.int r :: rest) w) : VJ p l e fr rc rs rl s m args below meth c cells slots Q A cc nL R_Qu (dC, dI) cA (wA ad cA) pc lo (.int b1 :: .int b0 :: .ref (ad 10) :: rest) u :=
  v_callVI (As := [.int b0, .int b1]) (rest := rest) (fun sz => c_Qu_part l dC dI ad cA sz N b0 b1 u r w h) tw_337 tw_317 tw_318 10 (wA_10 ad cA u) rfl rfl tw_319 tw_27 2 rfl (by decide +kernel) hfr hrl rfl hrm hd hq (fun v w1 hE => by obtain ⟨rfl, rfl⟩ := hE; exact k)
theorem d_Qu_removeAt_0 : decode b_Qu_removeAt 0 = .ok (.iload_n 1, 1) := by decide +kernel
theorem d_Qu_removeAt_1 : decode b_Qu_removeAt 1 = .ok (.iconst 4, 1) := by decide +kernel
theorem d_Qu_removeAt_2 : decode b_Qu_removeAt 2 = .ok (.imul, 1) := by decide +kernel
theorem d_Qu_removeAt_3 : decode b_Qu_removeAt 3 = .ok (.istore_n 2, 1) := by decide +kernel
theorem d_Qu_removeAt_4 : decode b_Qu_removeAt 4 = .ok (.iload_n 2, 1) := by decide +kernel
theorem d_Qu_removeAt_5 : decode b_Qu_removeAt 5 = .ok (.aload_n 0, 1) := by decide +kernel
theorem d_Qu_removeAt_6 : decode b_Qu_removeAt 6 = .ok (.getfield 15, 3) := by decide +kernel
theorem d_Qu_removeAt_9 : decode b_Qu_removeAt 9 = .ok (.iconst 1, 1) := by decide +kernel
theorem d_Qu_removeAt_10 : decode b_Qu_removeAt 10 = .ok (.isub, 1) := by decide +kernel
theorem d_Qu_removeAt_11 : decode b_Qu_removeAt 11 = .ok (.iconst 4, 1) := by decide +kernel
theorem d_Qu_removeAt_12 : decode b_Qu_removeAt 12 = .ok (.imul, 1) := by decide +kernel
theorem d_Qu_removeAt_13 : decode b_Qu_removeAt 13 = .ok (.if_icmp .ge 23, 3) := by decide +kernel
theorem d_Qu_removeAt_16 : decode b_Qu_removeAt 16 = .ok (.aload_n 0, 1) := by decide +kernel
theorem d_Qu_removeAt_17 : decode b_Qu_removeAt 17 = .ok (.getfield 11, 3) := by decide +kernel
theorem d_Qu_removeAt_20 : decode b_Qu_removeAt 20 = .ok (.iload_n 2, 1) := by decide +kernel
theorem d_Qu_removeAt_21 : decode b_Qu_removeAt 21 = .ok (.aload_n 0, 1) := by decide +kernel
theorem d_Qu_removeAt_22 : decode b_Qu_removeAt 22 = .ok (.getfield 11, 3) := by decide +kernel
theorem d_Qu_removeAt_25 : decode b_Qu_removeAt 25 = .ok (.iload_n 2, 1) := by decide +kernel
theorem d_Qu_removeAt_26 : decode b_Qu_removeAt 26 = .ok (.iconst 4, 1) := by decide +kernel
theorem d_Qu_removeAt_27 : decode b_Qu_removeAt 27 = .ok (.iadd, 1) := by decide +kernel
theorem d_Qu_removeAt_28 : decode b_Qu_removeAt 28 = .ok (.iaload, 1) := by decide +kernel
theorem d_Qu_removeAt_29 : decode b_Qu_removeAt 29 = .ok (.iastore, 1) := by decide +kernel
theorem d_Qu_removeAt_30 : decode b_Qu_removeAt 30 = .ok (.iinc 2 1, 3) := by decide +kernel
theorem d_Qu_removeAt_33 : decode b_Qu_removeAt 33 = .ok (.goto (-29), 3) := by decide +kernel
theorem d_Qu_removeAt_36 : decode b_Qu_removeAt 36 = .ok (.aload_n 0, 1) := by decide +kernel
theorem d_Qu_removeAt_37 : decode b_Qu_removeAt 37 = .ok (.dup, 1) := by decide +kernel
theorem d_Qu_removeAt_38 : decode b_Qu_removeAt 38 = .ok (.getfield 15, 3) := by decide +kernel
theorem d_Qu_removeAt_41 : decode b_Qu_removeAt 41 = .ok (.iconst 1, 1) := by decide +kernel
theorem d_Qu_removeAt_42 : decode b_Qu_removeAt 42 = .ok (.isub, 1) := by decide +kernel
theorem d_Qu_removeAt_43 : decode b_Qu_removeAt 43 = .ok (.putfield 15, 3) := by decide +kernel
theorem d_Qu_removeAt_46 : decode b_Qu_removeAt 46 = .ok (.return_, 1) := by decide +kernel
set_option maxHeartbeats 4000000 in
set_option maxRecDepth 100000 in
theorem c_Qu_removeAt (l : Launch) (dC : Nat → ClassId) (dI : Nat → Nat → Nat) (ad : Nat → Nat) (cA : ClassId) (sz : Nat) (N : Nat) (a1 : Int32) (u : Mem) (r : Int32) (w : Mem) (h : f_Qu_removeAt N a1 u = some (r, w)) : CtV l y_Qu_removeAt (Cond.code y_Qu_removeAt b_Qu_removeAt 3 none :: lw_gd) 0 0 (dC, dI) cA [.ref (ad 10), .int a1] (wA ad cA) u sz (fun w1 => w1 = w) := by
  refine v_metV (own := R_Qu) [some (.ref (ad 10)), some (.int a1), none] rfl (by decide) (Nat.le_of_ble_eq_true rfl) rfl rfl ?_
  intro p e s m args below meth c A Q ret
  unfold f_Qu_removeAt at h
  refine v_iload_n d_Qu_removeAt_0 rfl rfl ?_
  refine v_iconst 4 d_Qu_removeAt_1 (by decide) rfl ?_
  refine v_imul d_Qu_removeAt_2 rfl ?_
  refine v_istore_n (lo' := [_, _, _]) d_Qu_removeAt_3 rfl (by decide) rfl ?_
  have L4 : ∀ (κ : Mem → Rs), (∀ (u7 : Mem), κ u7 = some (r, w) → VJ p l e 0 0 0 0 s m args below meth c 0 0 Q A b_Qu_removeAt 3 R_Qu (dC, dI) cA (wA ad cA) 36 [some (.ref (ad 10)), none, none] [] u7) → ∀ (n : Nat) (x1 : Int32) (u2 : Mem), k_Qu_removeAt_4 N κ n x1 u2 = some (r, w) → VJ p l e 0 0 0 0 s m args below meth c 0 0 Q A b_Qu_removeAt 3 R_Qu (dC, dI) cA (wA ad cA) 4 [some (.ref (ad 10)), none, some (.int x1)] [] u2 := by
    intro κ hκ n
    induction n with
    | zero =>
      intro x1 u2 h
      exact no_ns h
    | succ n ih =>
      intro x1 u2 h
      unfold k_Qu_removeAt_4 at h
      refine v_iload_n d_Qu_removeAt_4 rfl rfl ?_
      refine v_aload_n d_Qu_removeAt_5 rfl rfl ?_
      refine vg_Qu_size d_Qu_removeAt_6 rfl ?_
      refine v_iconst 1 d_Qu_removeAt_9 (by decide) rfl ?_
      refine v_isub d_Qu_removeAt_10 rfl ?_
      refine v_iconst 4 d_Qu_removeAt_11 (by decide) rfl ?_
      refine v_imul d_Qu_removeAt_12 rfl ?_
      refine v_icmp_ge 36 d_Qu_removeAt_13 (by decide) rfl (fun c6 => ?_) (fun c6 => ?_)
      · replace h := (if_pos c6).symm.trans h
        refine v_drop 2 (lo' := [_, none, none]) rfl ?_
        exact hκ _ h
      · replace h := (if_neg c6).symm.trans h
        refine v_aload_n d_Qu_removeAt_16 rfl rfl ?_
        refine vg_Qu_parts d_Qu_removeAt_17 rfl ?_
        refine v_iload_n d_Qu_removeAt_20 rfl rfl ?_
        refine v_aload_n d_Qu_removeAt_21 rfl rfl ?_
        refine vg_Qu_parts d_Qu_removeAt_22 rfl ?_
        refine v_iload_n d_Qu_removeAt_25 rfl rfl ?_
        refine v_iconst 4 d_Qu_removeAt_26 (by decide) rfl ?_
        refine v_iadd d_Qu_removeAt_27 rfl ?_
        obtain ⟨g3, h⟩ := gd_inv h
        refine v_ald 11 (wA_11 ad cA _) d_Qu_removeAt_28 g3 rfl ?_
        obtain ⟨g4, h⟩ := gd_inv h
        obtain ⟨u5, eu5, h⟩ := jn_inv h
        refine v_ast 11 (wA_11 ad cA _) (ws_11 ad cA _ _ _) eu5 d_Qu_removeAt_29 g4 rfl ?_
        refine v_iinc (lo' := [_, none, _]) 1 d_Qu_removeAt_30 (by decide) rfl rfl (by decide) rfl ?_
        refine v_goto 4 d_Qu_removeAt_33 (by decide) ?_
        exact ih _ _ h
  refine v_drop 1 (lo' := [_, none, _]) rfl ?_
  refine L4 _ (fun u7 h => ?_) N _ _ h
  refine v_aload_n d_Qu_removeAt_36 rfl rfl ?_
  refine v_dup d_Qu_removeAt_37 rfl rfl ?_
  refine vg_Qu_size d_Qu_removeAt_38 rfl ?_
  refine v_iconst 1 d_Qu_removeAt_41 (by decide) rfl ?_
  refine v_isub d_Qu_removeAt_42 rfl ?_
  obtain ⟨u8, eu8, h⟩ := jn_inv h
  refine vp_Qu_size eu8 d_Qu_removeAt_43 rfl ?_
  obtain ⟨-, e2⟩ := rt_inv h
  exact ret _ _ _ e2 d_Qu_removeAt_46
theorem vc_Sh_Qu_removeAt {p : Program} {l : Launch} {e : Env} {fr rc rs rl : Nat} {s : State} {m : MethodId} {args : Array Value} {below : List Frame} {meth : Method} {c : Code} {cells slots : Nat} {Q : State → Prop} {A : Nat → Prop} {cc : ByteArray} {nL : Nat} {dC : Nat → ClassId} {dI : Nat → Nat → Nat} {cA : ClassId} {ad : Nat → Nat} {pc q : Nat} {lo : List (Option Value)} {rest : List Value} {u w : Mem} {r : Int32} {N : Nat} {b0 : Int32} (h : f_Qu_removeAt N b0 u = some (r, w)) (hfr : 0 + 1 ≤ fr) (hrl : 8 + (3 + 11) + 0 ≤ rl) (hrm : (rest.map fun v => v.category).sum ≤ 8) (hd : decode cc pc = .ok (.invokevirtual 112, 3)) (hq : pc + 3 = q) (k : VJ p l e fr rc rs rl s m args below meth c cells slots Q A cc nL R_Sh (dC, dI) cA (wA ad cA) q lo rest w) : VJ p l e fr rc rs rl s m args below meth c cells slots Q A cc nL R_Sh (dC, dI) cA (wA ad cA) pc lo (.int b0 :: .ref (ad 10) :: rest) u :=
  v_callVV (As := [.int b0]) (rest := rest) (fun sz => c_Qu_removeAt l dC dI ad cA sz N b0 u r w h) tw_320 tw_321 tw_322 10 (wA_10 ad cA u) rfl rfl tw_323 tw_27 1 rfl (by decide +kernel) hfr hrl rfl hrm hd hq (fun w1 hE => by subst hE; exact k)
theorem d_Sh_deliver_0 : decode b_Sh_deliver 0 = .ok (.aload_n 0, 1) := by decide +kernel
theorem d_Sh_deliver_1 : decode b_Sh_deliver 1 = .ok (.getfield 30, 3) := by decide +kernel
theorem d_Sh_deliver_4 : decode b_Sh_deliver 4 = .ok (.iload_n 1, 1) := by decide +kernel
theorem d_Sh_deliver_5 : decode b_Sh_deliver 5 = .ok (.invokevirtual 106, 3) := by decide +kernel
theorem d_Sh_deliver_8 : decode b_Sh_deliver 8 = .ok (.ifCond .ne 5, 3) := by decide +kernel
theorem d_Sh_deliver_11 : decode b_Sh_deliver 11 = .ok (.iconst 0, 1) := by decide +kernel
theorem d_Sh_deliver_12 : decode b_Sh_deliver 12 = .ok (.ireturn, 1) := by decide +kernel
theorem d_Sh_deliver_13 : decode b_Sh_deliver 13 = .ok (.aload_n 0, 1) := by decide +kernel
theorem d_Sh_deliver_14 : decode b_Sh_deliver 14 = .ok (.getfield 30, 3) := by decide +kernel
theorem d_Sh_deliver_17 : decode b_Sh_deliver 17 = .ok (.iload_n 1, 1) := by decide +kernel
theorem d_Sh_deliver_18 : decode b_Sh_deliver 18 = .ok (.iconst 1, 1) := by decide +kernel
theorem d_Sh_deliver_19 : decode b_Sh_deliver 19 = .ok (.invokevirtual 109, 3) := by decide +kernel
theorem d_Sh_deliver_22 : decode b_Sh_deliver 22 = .ok (.istore_n 2, 1) := by decide +kernel
theorem d_Sh_deliver_23 : decode b_Sh_deliver 23 = .ok (.aload_n 0, 1) := by decide +kernel
theorem d_Sh_deliver_24 : decode b_Sh_deliver 24 = .ok (.getfield 30, 3) := by decide +kernel
theorem d_Sh_deliver_27 : decode b_Sh_deliver 27 = .ok (.iload_n 1, 1) := by decide +kernel
theorem d_Sh_deliver_28 : decode b_Sh_deliver 28 = .ok (.iconst 2, 1) := by decide +kernel
theorem d_Sh_deliver_29 : decode b_Sh_deliver 29 = .ok (.invokevirtual 109, 3) := by decide +kernel
theorem d_Sh_deliver_32 : decode b_Sh_deliver 32 = .ok (.istore_n 3, 1) := by decide +kernel
theorem d_Sh_deliver_33 : decode b_Sh_deliver 33 = .ok (.aload_n 0, 1) := by decide +kernel
theorem d_Sh_deliver_34 : decode b_Sh_deliver 34 = .ok (.getfield 30, 3) := by decide +kernel
theorem d_Sh_deliver_37 : decode b_Sh_deliver 37 = .ok (.iload_n 1, 1) := by decide +kernel
theorem d_Sh_deliver_38 : decode b_Sh_deliver 38 = .ok (.invokevirtual 112, 3) := by decide +kernel
theorem d_Sh_deliver_41 : decode b_Sh_deliver 41 = .ok (.aload_n 0, 1) := by decide +kernel
theorem d_Sh_deliver_42 : decode b_Sh_deliver 42 = .ok (.getfield 16, 3) := by decide +kernel
theorem d_Sh_deliver_45 : decode b_Sh_deliver 45 = .ok (.iload_n 2, 1) := by decide +kernel
theorem d_Sh_deliver_46 : decode b_Sh_deliver 46 = .ok (.invokevirtual 70, 3) := by decide +kernel
theorem d_Sh_deliver_49 : decode b_Sh_deliver 49 = .ok (.istore 4, 2) := by decide +kernel
theorem d_Sh_deliver_51 : decode b_Sh_deliver 51 = .ok (.iload 4, 2) := by decide +kernel
theorem d_Sh_deliver_53 : decode b_Sh_deliver 53 = .ok (.iconst (-1), 1) := by decide +kernel
theorem d_Sh_deliver_54 : decode b_Sh_deliver 54 = .ok (.if_icmp .eq 23, 3) := by decide +kernel
theorem d_Sh_deliver_57 : decode b_Sh_deliver 57 = .ok (.aload_n 0, 1) := by decide +kernel
theorem d_Sh_deliver_58 : decode b_Sh_deliver 58 = .ok (.getfield 16, 3) := by decide +kernel
theorem d_Sh_deliver_61 : decode b_Sh_deliver 61 = .ok (.iload 4, 2) := by decide +kernel
theorem d_Sh_deliver_63 : decode b_Sh_deliver 63 = .ok (.invokevirtual 115, 3) := by decide +kernel
theorem d_Sh_deliver_66 : decode b_Sh_deliver 66 = .ok (.iconst (-1), 1) := by decide +kernel
theorem d_Sh_deliver_67 : decode b_Sh_deliver 67 = .ok (.if_icmp .eq 10, 3) := by decide +kernel
theorem d_Sh_deliver_70 : decode b_Sh_deliver 70 = .ok (.aload_n 0, 1) := by decide +kernel
theorem d_Sh_deliver_71 : decode b_Sh_deliver 71 = .ok (.iload 4, 2) := by decide +kernel
theorem d_Sh_deliver_73 : decode b_Sh_deliver 73 = .ok (.iload_n 3, 1) := by decide +kernel
theorem d_Sh_deliver_74 : decode b_Sh_deliver 74 = .ok (.invokevirtual 118, 3) := by decide +kernel
theorem d_Sh_deliver_77 : decode b_Sh_deliver 77 = .ok (.iconst 1, 1) := by decide +kernel
theorem d_Sh_deliver_78 : decode b_Sh_deliver 78 = .ok (.ireturn, 1) := by decide +kernel
set_option maxHeartbeats 4000000 in
set_option maxRecDepth 100000 in
theorem c_Sh_deliver (l : Launch) (dC : Nat → ClassId) (dI : Nat → Nat → Nat) (ad : Nat → Nat) (cA : ClassId) (sz : Nat) (N : Nat) (a1 : Int32) (u : Mem) (r : Int32) (w : Mem) (h : f_Sh_deliver N a1 u = some (r, w)) : CtI l y_Sh_deliver (Cond.code y_Sh_deliver b_Sh_deliver 5 (some .boolean) :: lw_gd) 3 66 (dC, dI) cA [.ref (ad 0), .int a1] (wA ad cA) u sz (fun v w1 => v = r ∧ w1 = w ∧ (v = 0 ∨ v = 1)) := by
  refine v_metI (own := R_Sh) [some (.ref (ad 0)), some (.int a1), none, none, none] rfl (by decide) (Nat.le_of_ble_eq_true rfl) rfl rfl (fun v u h => by rcases h.2.2 with h | h <;> rw [h] <;> rfl) ?_
  intro p e s m args below meth c A Q ret
  unfold f_Sh_deliver at h
  refine v_aload_n d_Sh_deliver_0 rfl rfl ?_
  refine vg_Sh_queue d_Sh_deliver_1 rfl ?_
  refine v_iload_n d_Sh_deliver_4 rfl rfl ?_
  obtain ⟨y1, u2, hc3, h⟩ := bd_inv h
  refine vc_Sh_Qu_has hc3 (Nat.le_of_ble_eq_true rfl) (Nat.le_of_ble_eq_true rfl) (Nat.le_of_ble_eq_true rfl) d_Sh_deliver_5 rfl ?_
  refine v_if_ne 13 d_Sh_deliver_8 (by decide) rfl (fun c24 => ?_) (fun c24 => ?_)
  · replace h := (if_pos c24).symm.trans h
    refine v_iconst 0 d_Sh_deliver_11 (by decide) rfl ?_
    obtain ⟨e1, e2⟩ := rt_inv h
    exact ret _ _ _ _ ⟨e1, e2, Or.inl rfl⟩ d_Sh_deliver_12
  · replace h := (if_neg c24).symm.trans h
    refine v_aload_n d_Sh_deliver_13 rfl rfl ?_
    refine vg_Sh_queue d_Sh_deliver_14 rfl ?_
    refine v_iload_n d_Sh_deliver_17 rfl rfl ?_
    refine v_iconst 1 d_Sh_deliver_18 (by decide) rfl ?_
    obtain ⟨y4, u5, hc6, h⟩ := bd_inv h
    refine vc_Sh_Qu_part hc6 (Nat.le_of_ble_eq_true rfl) (Nat.le_of_ble_eq_true rfl) (Nat.le_of_ble_eq_true rfl) d_Sh_deliver_19 rfl ?_
    refine v_istore_n (lo' := [_, _, _, none, none]) d_Sh_deliver_22 rfl (by decide) rfl ?_
    refine v_aload_n d_Sh_deliver_23 rfl rfl ?_
    refine vg_Sh_queue d_Sh_deliver_24 rfl ?_
    refine v_iload_n d_Sh_deliver_27 rfl rfl ?_
    refine v_iconst 2 d_Sh_deliver_28 (by decide) rfl ?_
    obtain ⟨y7, u8, hc9, h⟩ := bd_inv h
    refine vc_Sh_Qu_part hc9 (Nat.le_of_ble_eq_true rfl) (Nat.le_of_ble_eq_true rfl) (Nat.le_of_ble_eq_true rfl) d_Sh_deliver_29 rfl ?_
    refine v_istore_n (lo' := [_, _, _, _, none]) d_Sh_deliver_32 rfl (by decide) rfl ?_
    refine v_aload_n d_Sh_deliver_33 rfl rfl ?_
    refine vg_Sh_queue d_Sh_deliver_34 rfl ?_
    refine v_iload_n d_Sh_deliver_37 rfl rfl ?_
    obtain ⟨_y10, u11, hc12, h⟩ := bd_inv h
    refine vc_Sh_Qu_removeAt hc12 (Nat.le_of_ble_eq_true rfl) (Nat.le_of_ble_eq_true rfl) (Nat.le_of_ble_eq_true rfl) d_Sh_deliver_38 rfl ?_
    refine v_aload_n d_Sh_deliver_41 rfl rfl ?_
    refine vg_Sh_heap d_Sh_deliver_42 rfl ?_
    refine v_iload_n d_Sh_deliver_45 rfl rfl ?_
    obtain ⟨y13, u14, hc15, h⟩ := bd_inv h
    refine vc_Sh_Hp_slotOf hc15 (Nat.le_of_ble_eq_true rfl) (Nat.le_of_ble_eq_true rfl) (Nat.le_of_ble_eq_true rfl) d_Sh_deliver_46 rfl ?_
    refine v_istore (lo' := [_, _, _, _, _]) d_Sh_deliver_49 rfl (by decide) rfl ?_
    refine v_iload d_Sh_deliver_51 rfl rfl ?_
    refine v_iconst (-1) d_Sh_deliver_53 (by decide) rfl ?_
    refine v_icmp_eq 77 d_Sh_deliver_54 (by decide) rfl (fun c23 => ?_) (fun c23 => ?_)
    · replace h := (if_pos c23).symm.trans h
      refine v_iconst 1 d_Sh_deliver_77 (by decide) rfl ?_
      obtain ⟨e1, e2⟩ := rt_inv h
      exact ret _ _ _ _ ⟨e1, e2, Or.inr rfl⟩ d_Sh_deliver_78
    · replace h := (if_neg c23).symm.trans h
      refine v_aload_n d_Sh_deliver_57 rfl rfl ?_
      refine vg_Sh_heap d_Sh_deliver_58 rfl ?_
      refine v_iload d_Sh_deliver_61 rfl rfl ?_
      obtain ⟨y16, u17, hc18, h⟩ := bd_inv h
      refine vc_Sh_Hp_entryAt hc18 (Nat.le_of_ble_eq_true rfl) (Nat.le_of_ble_eq_true rfl) (Nat.le_of_ble_eq_true rfl) d_Sh_deliver_63 rfl ?_
      refine v_iconst (-1) d_Sh_deliver_66 (by decide) rfl ?_
      refine v_icmp_eq 77 d_Sh_deliver_67 (by decide) rfl (fun c22 => ?_) (fun c22 => ?_)
      · replace h := (if_pos c22).symm.trans h
        refine v_iconst 1 d_Sh_deliver_77 (by decide) rfl ?_
        obtain ⟨e1, e2⟩ := rt_inv h
        exact ret _ _ _ _ ⟨e1, e2, Or.inr rfl⟩ d_Sh_deliver_78
      · replace h := (if_neg c22).symm.trans h
        refine v_aload_n d_Sh_deliver_70 rfl rfl ?_
        refine v_iload d_Sh_deliver_71 rfl rfl ?_
        refine v_iload_n d_Sh_deliver_73 rfl rfl ?_
        obtain ⟨_y19, u20, hc21, h⟩ := bd_inv h
        refine vc_Sh_Sh_raise hc21 (Nat.le_of_ble_eq_true rfl) (Nat.le_of_ble_eq_true rfl) (Nat.le_of_ble_eq_true rfl) d_Sh_deliver_74 rfl ?_
        refine v_iconst 1 d_Sh_deliver_77 (by decide) rfl ?_
        obtain ⟨e1, e2⟩ := rt_inv h
        exact ret _ _ _ _ ⟨e1, e2, Or.inr rfl⟩ d_Sh_deliver_78
theorem vc_La_Sh_deliver {p : Program} {l : Launch} {e : Env} {fr rc rs rl : Nat} {s : State} {m : MethodId} {args : Array Value} {below : List Frame} {meth : Method} {c : Code} {cells slots : Nat} {Q : State → Prop} {A : Nat → Prop} {cc : ByteArray} {nL : Nat} {dC : Nat → ClassId} {dI : Nat → Nat → Nat} {cA : ClassId} {ad : Nat → Nat} {pc q : Nat} {lo : List (Option Value)} {rest : List Value} {u w : Mem} {r : Int32} {N : Nat} {b0 : Int32} (h : f_Sh_deliver N b0 u = some (r, w)) (hfr : 3 + 1 ≤ fr) (hrl : 8 + (5 + 11) + 66 ≤ rl) (hrm : (rest.map fun v => v.category).sum ≤ 8) (hd : decode cc pc = .ok (.invokevirtual 42, 3)) (hq : pc + 3 = q) (k : VJ p l e fr rc rs rl s m args below meth c cells slots Q A cc nL R_La (dC, dI) cA (wA ad cA) q lo (.int r :: rest) w) : VJ p l e fr rc rs rl s m args below meth c cells slots Q A cc nL R_La (dC, dI) cA (wA ad cA) pc lo (.int b0 :: .ref (ad 0) :: rest) u :=
  v_callVI (As := [.int b0]) (rest := rest) (fun sz => c_Sh_deliver l dC dI ad cA sz N b0 u r w h) tw_308 tw_309 tw_310 0 (wA_0 ad cA u) rfl rfl tw_311 tw_24 1 rfl (by decide +kernel) hfr hrl rfl hrm hd hq (fun v w1 hE => by obtain ⟨rfl, rfl, -⟩ := hE; exact k)
theorem d_Qu_leastOldStamp_0 : decode b_Qu_leastOldStamp 0 = .ok (.ldc 19, 2) := by decide +kernel
theorem d_Qu_leastOldStamp_2 : decode b_Qu_leastOldStamp 2 = .ok (.istore_n 2, 1) := by decide +kernel
theorem d_Qu_leastOldStamp_3 : decode b_Qu_leastOldStamp 3 = .ok (.iconst 0, 1) := by decide +kernel
theorem d_Qu_leastOldStamp_4 : decode b_Qu_leastOldStamp 4 = .ok (.istore_n 3, 1) := by decide +kernel
theorem d_Qu_leastOldStamp_5 : decode b_Qu_leastOldStamp 5 = .ok (.iload_n 3, 1) := by decide +kernel
theorem d_Qu_leastOldStamp_6 : decode b_Qu_leastOldStamp 6 = .ok (.aload_n 0, 1) := by decide +kernel
theorem d_Qu_leastOldStamp_7 : decode b_Qu_leastOldStamp 7 = .ok (.getfield 15, 3) := by decide +kernel
theorem d_Qu_leastOldStamp_10 : decode b_Qu_leastOldStamp 10 = .ok (.if_icmp .ge 30, 3) := by decide +kernel
theorem d_Qu_leastOldStamp_13 : decode b_Qu_leastOldStamp 13 = .ok (.aload_n 0, 1) := by decide +kernel
theorem d_Qu_leastOldStamp_14 : decode b_Qu_leastOldStamp 14 = .ok (.iload_n 3, 1) := by decide +kernel
theorem d_Qu_leastOldStamp_15 : decode b_Qu_leastOldStamp 15 = .ok (.iconst 0, 1) := by decide +kernel
theorem d_Qu_leastOldStamp_16 : decode b_Qu_leastOldStamp 16 = .ok (.invokevirtual 20, 3) := by decide +kernel
theorem d_Qu_leastOldStamp_19 : decode b_Qu_leastOldStamp 19 = .ok (.iload_n 1, 1) := by decide +kernel
theorem d_Qu_leastOldStamp_20 : decode b_Qu_leastOldStamp 20 = .ok (.if_icmp .ne 14, 3) := by decide +kernel
theorem d_Qu_leastOldStamp_23 : decode b_Qu_leastOldStamp 23 = .ok (.iload_n 2, 1) := by decide +kernel
theorem d_Qu_leastOldStamp_24 : decode b_Qu_leastOldStamp 24 = .ok (.aload_n 0, 1) := by decide +kernel
theorem d_Qu_leastOldStamp_25 : decode b_Qu_leastOldStamp 25 = .ok (.iload_n 3, 1) := by decide +kernel
theorem d_Qu_leastOldStamp_26 : decode b_Qu_leastOldStamp 26 = .ok (.iconst 3, 1) := by decide +kernel
theorem d_Qu_leastOldStamp_27 : decode b_Qu_leastOldStamp 27 = .ok (.invokevirtual 20, 3) := by decide +kernel
theorem d_Qu_leastOldStamp_30 : decode b_Qu_leastOldStamp 30 = .ok (.invokestatic 24, 3) := by decide +kernel
theorem d_Qu_leastOldStamp_33 : decode b_Qu_leastOldStamp 33 = .ok (.istore_n 2, 1) := by decide +kernel
theorem d_Qu_leastOldStamp_34 : decode b_Qu_leastOldStamp 34 = .ok (.iinc 3 1, 3) := by decide +kernel
theorem d_Qu_leastOldStamp_37 : decode b_Qu_leastOldStamp 37 = .ok (.goto (-32), 3) := by decide +kernel
theorem d_Qu_leastOldStamp_40 : decode b_Qu_leastOldStamp 40 = .ok (.iload_n 2, 1) := by decide +kernel
theorem d_Qu_leastOldStamp_41 : decode b_Qu_leastOldStamp 41 = .ok (.ireturn, 1) := by decide +kernel
set_option maxHeartbeats 4000000 in
set_option maxRecDepth 100000 in
theorem c_Qu_leastOldStamp (l : Launch) (dC : Nat → ClassId) (dI : Nat → Nat → Nat) (ad : Nat → Nat) (cA : ClassId) (sz : Nat) (N : Nat) (a1 : Int32) (u : Mem) (r : Int32) (w : Mem) (h : f_Qu_leastOldStamp N a1 u = some (r, w)) : CtI l y_Qu_leastOldStamp (Cond.code y_Qu_leastOldStamp b_Qu_leastOldStamp 4 (some .int) :: lw_gd) 1 22 (dC, dI) cA [.ref (ad 10), .int a1] (wA ad cA) u sz (fun v w1 => v = r ∧ w1 = w) := by
  refine v_metI (own := R_Qu) [some (.ref (ad 10)), some (.int a1), none, none] rfl (by decide) (Nat.le_of_ble_eq_true rfl) rfl rfl (fun v u h => rfl) ?_
  intro p e s m args below meth c A Q ret
  unfold f_Qu_leastOldStamp at h
  refine v_ldc tw_336 d_Qu_leastOldStamp_0 rfl ?_
  refine v_istore_n (lo' := [_, _, _, none]) d_Qu_leastOldStamp_2 rfl (by decide) rfl ?_
  refine v_iconst 0 d_Qu_leastOldStamp_3 (by decide) rfl ?_
  refine v_istore_n (lo' := [_, _, _, _]) d_Qu_leastOldStamp_4 rfl (by decide) rfl ?_
  have L5 : ∀ (κ : Int32 → Mem → Rs), (∀ (x13 : Int32) (u14 : Mem), κ x13 u14 = some (r, w) → VJ p l e 1 0 0 22 s m args below meth c 0 0 Q A b_Qu_leastOldStamp 4 R_Qu (dC, dI) cA (wA ad cA) 40 [none, none, some (.int x13), none] [] u14) → ∀ (n : Nat) (x1 x2 x3 : Int32) (u4 : Mem), k_Qu_leastOldStamp_5 N κ n x1 x2 x3 u4 = some (r, w) → VJ p l e 1 0 0 22 s m args below meth c 0 0 Q A b_Qu_leastOldStamp 4 R_Qu (dC, dI) cA (wA ad cA) 5 [some (.ref (ad 10)), some (.int x1), some (.int x2), some (.int x3)] [] u4 := by
    intro κ hκ n
    induction n with
    | zero =>
      intro x1 x2 x3 u4 h
      exact no_ns h
    | succ n ih =>
      intro x1 x2 x3 u4 h
      unfold k_Qu_leastOldStamp_5 at h
      refine v_iload_n d_Qu_leastOldStamp_5 rfl rfl ?_
      refine v_aload_n d_Qu_leastOldStamp_6 rfl rfl ?_
      refine vg_Qu_size d_Qu_leastOldStamp_7 rfl ?_
      refine v_icmp_ge 40 d_Qu_leastOldStamp_10 (by decide) rfl (fun c12 => ?_) (fun c12 => ?_)
      · replace h := (if_pos c12).symm.trans h
        refine v_drop 0 (lo' := [none, _, _, _]) rfl ?_
        refine v_drop 1 (lo' := [none, none, _, _]) rfl ?_
        refine v_drop 3 (lo' := [none, none, _, none]) rfl ?_
        exact hκ _ _ h
      · replace h := (if_neg c12).symm.trans h
        refine v_aload_n d_Qu_leastOldStamp_13 rfl rfl ?_
        refine v_iload_n d_Qu_leastOldStamp_14 rfl rfl ?_
        refine v_iconst 0 d_Qu_leastOldStamp_15 (by decide) rfl ?_
        obtain ⟨y5, u6, hc7, h⟩ := bd_inv h
        refine vc_Qu_Qu_part hc7 (Nat.le_of_ble_eq_true rfl) (Nat.le_of_ble_eq_true rfl) (Nat.le_of_ble_eq_true rfl) d_Qu_leastOldStamp_16 rfl ?_
        refine v_iload_n d_Qu_leastOldStamp_19 rfl rfl ?_
        refine v_icmp_ne 34 d_Qu_leastOldStamp_20 (by decide) rfl (fun c11 => ?_) (fun c11 => ?_)
        · replace h := (if_pos c11).symm.trans h
          refine v_iload_n d_Qu_leastOldStamp_23 rfl rfl ?_
          refine v_aload_n d_Qu_leastOldStamp_24 rfl rfl ?_
          refine v_iload_n d_Qu_leastOldStamp_25 rfl rfl ?_
          refine v_iconst 3 d_Qu_leastOldStamp_26 (by decide) rfl ?_
          obtain ⟨y8, u9, hc10, h⟩ := bd_inv h
          refine vc_Qu_Qu_part hc10 (Nat.le_of_ble_eq_true rfl) (Nat.le_of_ble_eq_true rfl) (Nat.le_of_ble_eq_true rfl) d_Qu_leastOldStamp_27 rfl ?_
          refine v_mmin tw_338 tw_181 tw_29 tw_182 (Nat.le_of_ble_eq_true rfl) (Nat.le_of_ble_eq_true rfl) d_Qu_leastOldStamp_30 rfl ?_
          refine v_istore_n (lo' := [_, _, _, _]) d_Qu_leastOldStamp_33 rfl (by decide) rfl ?_
          refine v_iinc (lo' := [_, _, _, _]) 1 d_Qu_leastOldStamp_34 (by decide) rfl rfl (by decide) rfl ?_
          refine v_goto 5 d_Qu_leastOldStamp_37 (by decide) ?_
          exact ih _ _ _ _ h
        · replace h := (if_neg c11).symm.trans h
          refine v_iinc (lo' := [_, _, _, _]) 1 d_Qu_leastOldStamp_34 (by decide) rfl rfl (by decide) rfl ?_
          refine v_goto 5 d_Qu_leastOldStamp_37 (by decide) ?_
          exact ih _ _ _ _ h
  refine L5 _ (fun x13 u14 h => ?_) N _ _ _ _ h
  refine v_iload_n d_Qu_leastOldStamp_40 rfl rfl ?_
  obtain ⟨e1, e2⟩ := rt_inv h
  exact ret _ _ _ _ ⟨e1, e2⟩ d_Qu_leastOldStamp_41
theorem vc_Sh_Qu_leastOldStamp {p : Program} {l : Launch} {e : Env} {fr rc rs rl : Nat} {s : State} {m : MethodId} {args : Array Value} {below : List Frame} {meth : Method} {c : Code} {cells slots : Nat} {Q : State → Prop} {A : Nat → Prop} {cc : ByteArray} {nL : Nat} {dC : Nat → ClassId} {dI : Nat → Nat → Nat} {cA : ClassId} {ad : Nat → Nat} {pc q : Nat} {lo : List (Option Value)} {rest : List Value} {u w : Mem} {r : Int32} {N : Nat} {b0 : Int32} (h : f_Qu_leastOldStamp N b0 u = some (r, w)) (hfr : 1 + 1 ≤ fr) (hrl : 8 + (4 + 11) + 22 ≤ rl) (hrm : (rest.map fun v => v.category).sum ≤ 8) (hd : decode cc pc = .ok (.invokevirtual 154, 3)) (hq : pc + 3 = q) (k : VJ p l e fr rc rs rl s m args below meth c cells slots Q A cc nL R_Sh (dC, dI) cA (wA ad cA) q lo (.int r :: rest) w) : VJ p l e fr rc rs rl s m args below meth c cells slots Q A cc nL R_Sh (dC, dI) cA (wA ad cA) pc lo (.int b0 :: .ref (ad 10) :: rest) u :=
  v_callVI (As := [.int b0]) (rest := rest) (fun sz => c_Qu_leastOldStamp l dC dI ad cA sz N b0 u r w h) tw_332 tw_333 tw_334 10 (wA_10 ad cA u) rfl rfl tw_335 tw_27 1 rfl (by decide +kernel) hfr hrl rfl hrm hd hq (fun v w1 hE => by obtain ⟨rfl, rfl⟩ := hE; exact k)
theorem d_Sh_redoOf_0 : decode b_Sh_redoOf 0 = .ok (.aload_n 0, 1) := by decide +kernel
theorem d_Sh_redoOf_1 : decode b_Sh_redoOf 1 = .ok (.getfield 34, 3) := by decide +kernel
theorem d_Sh_redoOf_4 : decode b_Sh_redoOf 4 = .ok (.iload_n 1, 1) := by decide +kernel
theorem d_Sh_redoOf_5 : decode b_Sh_redoOf 5 = .ok (.iaload, 1) := by decide +kernel
theorem d_Sh_redoOf_6 : decode b_Sh_redoOf 6 = .ok (.aload_n 0, 1) := by decide +kernel
theorem d_Sh_redoOf_7 : decode b_Sh_redoOf 7 = .ok (.getfield 37, 3) := by decide +kernel
theorem d_Sh_redoOf_10 : decode b_Sh_redoOf 10 = .ok (.iload_n 1, 1) := by decide +kernel
theorem d_Sh_redoOf_11 : decode b_Sh_redoOf 11 = .ok (.iaload, 1) := by decide +kernel
theorem d_Sh_redoOf_12 : decode b_Sh_redoOf 12 = .ok (.invokestatic 125, 3) := by decide +kernel
theorem d_Sh_redoOf_15 : decode b_Sh_redoOf 15 = .ok (.aload_n 0, 1) := by decide +kernel
theorem d_Sh_redoOf_16 : decode b_Sh_redoOf 16 = .ok (.getfield 30, 3) := by decide +kernel
theorem d_Sh_redoOf_19 : decode b_Sh_redoOf 19 = .ok (.iload_n 1, 1) := by decide +kernel
theorem d_Sh_redoOf_20 : decode b_Sh_redoOf 20 = .ok (.invokevirtual 154, 3) := by decide +kernel
theorem d_Sh_redoOf_23 : decode b_Sh_redoOf 23 = .ok (.invokestatic 125, 3) := by decide +kernel
theorem d_Sh_redoOf_26 : decode b_Sh_redoOf 26 = .ok (.ireturn, 1) := by decide +kernel
set_option maxHeartbeats 4000000 in
set_option maxRecDepth 100000 in
theorem c_Sh_redoOf (l : Launch) (dC : Nat → ClassId) (dI : Nat → Nat → Nat) (ad : Nat → Nat) (cA : ClassId) (sz : Nat) (N : Nat) (a1 : Int32) (u : Mem) (r : Int32) (w : Mem) (h : f_Sh_redoOf N a1 u = some (r, w)) : CtI l y_Sh_redoOf (Cond.code y_Sh_redoOf b_Sh_redoOf 2 (some .int) :: lw_gd) 2 45 (dC, dI) cA [.ref (ad 0), .int a1] (wA ad cA) u sz (fun v w1 => v = r ∧ w1 = w) := by
  refine v_metI (own := R_Sh) [some (.ref (ad 0)), some (.int a1)] rfl (by decide) (Nat.le_of_ble_eq_true rfl) rfl rfl (fun v u h => rfl) ?_
  intro p e s m args below meth c A Q ret
  unfold f_Sh_redoOf at h
  refine v_aload_n d_Sh_redoOf_0 rfl rfl ?_
  refine vg_Sh_lasts d_Sh_redoOf_1 rfl ?_
  refine v_iload_n d_Sh_redoOf_4 rfl rfl ?_
  obtain ⟨g1, h⟩ := gd_inv h
  refine v_ald 12 (wA_12 ad cA _) d_Sh_redoOf_5 g1 rfl ?_
  refine v_aload_n d_Sh_redoOf_6 rfl rfl ?_
  refine vg_Sh_lows d_Sh_redoOf_7 rfl ?_
  refine v_iload_n d_Sh_redoOf_10 rfl rfl ?_
  obtain ⟨g2, h⟩ := gd_inv h
  refine v_ald 13 (wA_13 ad cA _) d_Sh_redoOf_11 g2 rfl ?_
  refine v_mmin tw_180 tw_181 tw_29 tw_182 (Nat.le_of_ble_eq_true rfl) (Nat.le_of_ble_eq_true rfl) d_Sh_redoOf_12 rfl ?_
  refine v_aload_n d_Sh_redoOf_15 rfl rfl ?_
  refine vg_Sh_queue d_Sh_redoOf_16 rfl ?_
  refine v_iload_n d_Sh_redoOf_19 rfl rfl ?_
  obtain ⟨y3, u4, hc5, h⟩ := bd_inv h
  refine vc_Sh_Qu_leastOldStamp hc5 (Nat.le_of_ble_eq_true rfl) (Nat.le_of_ble_eq_true rfl) (Nat.le_of_ble_eq_true rfl) d_Sh_redoOf_20 rfl ?_
  refine v_mmin tw_180 tw_181 tw_29 tw_182 (Nat.le_of_ble_eq_true rfl) (Nat.le_of_ble_eq_true rfl) d_Sh_redoOf_23 rfl ?_
  obtain ⟨e1, e2⟩ := rt_inv h
  exact ret _ _ _ _ ⟨e1, e2⟩ d_Sh_redoOf_26
theorem vc_Sh_Sh_redoOf {p : Program} {l : Launch} {e : Env} {fr rc rs rl : Nat} {s : State} {m : MethodId} {args : Array Value} {below : List Frame} {meth : Method} {c : Code} {cells slots : Nat} {Q : State → Prop} {A : Nat → Prop} {cc : ByteArray} {nL : Nat} {dC : Nat → ClassId} {dI : Nat → Nat → Nat} {cA : ClassId} {ad : Nat → Nat} {pc q : Nat} {lo : List (Option Value)} {rest : List Value} {u w : Mem} {r : Int32} {N : Nat} {b0 : Int32} (h : f_Sh_redoOf N b0 u = some (r, w)) (hfr : 2 + 1 ≤ fr) (hrl : 8 + (2 + 11) + 45 ≤ rl) (hrm : (rest.map fun v => v.category).sum ≤ 8) (hd : decode cc pc = .ok (.invokevirtual 122, 3)) (hq : pc + 3 = q) (k : VJ p l e fr rc rs rl s m args below meth c cells slots Q A cc nL R_Sh (dC, dI) cA (wA ad cA) q lo (.int r :: rest) w) : VJ p l e fr rc rs rl s m args below meth c cells slots Q A cc nL R_Sh (dC, dI) cA (wA ad cA) pc lo (.int b0 :: .ref (ad 0) :: rest) u :=
  v_callVI (As := [.int b0]) (rest := rest) (fun sz => c_Sh_redoOf l dC dI ad cA sz N b0 u r w h) tw_328 tw_330 tw_14 0 (wA_0 ad cA u) rfl rfl tw_331 tw_24 1 rfl (by decide +kernel) hfr hrl rfl hrm hd hq (fun v w1 hE => by obtain ⟨rfl, rfl⟩ := hE; exact k)
theorem d_Hp_removeEntriesBelow_0 : decode b_Hp_removeEntriesBelow 0 = .ok (.iconst 0, 1) := by decide +kernel
theorem d_Hp_removeEntriesBelow_1 : decode b_Hp_removeEntriesBelow 1 = .ok (.istore_n 2, 1) := by decide +kernel
theorem d_Hp_removeEntriesBelow_2 : decode b_Hp_removeEntriesBelow 2 = .ok (.iconst 0, 1) := by decide +kernel
theorem d_Hp_removeEntriesBelow_3 : decode b_Hp_removeEntriesBelow 3 = .ok (.istore_n 3, 1) := by decide +kernel
theorem d_Hp_removeEntriesBelow_4 : decode b_Hp_removeEntriesBelow 4 = .ok (.iload_n 3, 1) := by decide +kernel
theorem d_Hp_removeEntriesBelow_5 : decode b_Hp_removeEntriesBelow 5 = .ok (.bipush 24, 2) := by decide +kernel
theorem d_Hp_removeEntriesBelow_7 : decode b_Hp_removeEntriesBelow 7 = .ok (.if_icmp .ge 39, 3) := by decide +kernel
theorem d_Hp_removeEntriesBelow_10 : decode b_Hp_removeEntriesBelow 10 = .ok (.aload_n 0, 1) := by decide +kernel
theorem d_Hp_removeEntriesBelow_11 : decode b_Hp_removeEntriesBelow 11 = .ok (.getfield 18, 3) := by decide +kernel
theorem d_Hp_removeEntriesBelow_14 : decode b_Hp_removeEntriesBelow 14 = .ok (.iload_n 3, 1) := by decide +kernel
theorem d_Hp_removeEntriesBelow_15 : decode b_Hp_removeEntriesBelow 15 = .ok (.iaload, 1) := by decide +kernel
theorem d_Hp_removeEntriesBelow_16 : decode b_Hp_removeEntriesBelow 16 = .ok (.iconst (-1), 1) := by decide +kernel
theorem d_Hp_removeEntriesBelow_17 : decode b_Hp_removeEntriesBelow 17 = .ok (.if_icmp .eq 23, 3) := by decide +kernel
theorem d_Hp_removeEntriesBelow_20 : decode b_Hp_removeEntriesBelow 20 = .ok (.aload_n 0, 1) := by decide +kernel
theorem d_Hp_removeEntriesBelow_21 : decode b_Hp_removeEntriesBelow 21 = .ok (.getfield 18, 3) := by decide +kernel
theorem d_Hp_removeEntriesBelow_24 : decode b_Hp_removeEntriesBelow 24 = .ok (.iload_n 3, 1) := by decide +kernel
theorem d_Hp_removeEntriesBelow_25 : decode b_Hp_removeEntriesBelow 25 = .ok (.iaload, 1) := by decide +kernel
theorem d_Hp_removeEntriesBelow_26 : decode b_Hp_removeEntriesBelow 26 = .ok (.iload_n 1, 1) := by decide +kernel
theorem d_Hp_removeEntriesBelow_27 : decode b_Hp_removeEntriesBelow 27 = .ok (.if_icmp .ge 13, 3) := by decide +kernel
theorem d_Hp_removeEntriesBelow_30 : decode b_Hp_removeEntriesBelow 30 = .ok (.aload_n 0, 1) := by decide +kernel
theorem d_Hp_removeEntriesBelow_31 : decode b_Hp_removeEntriesBelow 31 = .ok (.getfield 18, 3) := by decide +kernel
theorem d_Hp_removeEntriesBelow_34 : decode b_Hp_removeEntriesBelow 34 = .ok (.iload_n 3, 1) := by decide +kernel
theorem d_Hp_removeEntriesBelow_35 : decode b_Hp_removeEntriesBelow 35 = .ok (.iconst (-1), 1) := by decide +kernel
theorem d_Hp_removeEntriesBelow_36 : decode b_Hp_removeEntriesBelow 36 = .ok (.iastore, 1) := by decide +kernel
theorem d_Hp_removeEntriesBelow_37 : decode b_Hp_removeEntriesBelow 37 = .ok (.iinc 2 1, 3) := by decide +kernel
theorem d_Hp_removeEntriesBelow_40 : decode b_Hp_removeEntriesBelow 40 = .ok (.iinc 3 1, 3) := by decide +kernel
theorem d_Hp_removeEntriesBelow_43 : decode b_Hp_removeEntriesBelow 43 = .ok (.goto (-39), 3) := by decide +kernel
theorem d_Hp_removeEntriesBelow_46 : decode b_Hp_removeEntriesBelow 46 = .ok (.iload_n 2, 1) := by decide +kernel
theorem d_Hp_removeEntriesBelow_47 : decode b_Hp_removeEntriesBelow 47 = .ok (.ireturn, 1) := by decide +kernel
set_option maxHeartbeats 4000000 in
set_option maxRecDepth 100000 in
theorem c_Hp_removeEntriesBelow (l : Launch) (dC : Nat → ClassId) (dI : Nat → Nat → Nat) (ad : Nat → Nat) (cA : ClassId) (sz : Nat) (N : Nat) (a1 : Int32) (u : Mem) (r : Int32) (w : Mem) (h : f_Hp_removeEntriesBelow N a1 u = some (r, w)) : CtI l y_Hp_removeEntriesBelow (Cond.code y_Hp_removeEntriesBelow b_Hp_removeEntriesBelow 4 (some .int) :: lw_gd) 0 0 (dC, dI) cA [.ref (ad 2), .int a1] (wA ad cA) u sz (fun v w1 => v = r ∧ w1 = w) := by
  refine v_metI (own := R_Hp) [some (.ref (ad 2)), some (.int a1), none, none] rfl (by decide) (Nat.le_of_ble_eq_true rfl) rfl rfl (fun v u h => rfl) ?_
  intro p e s m args below meth c A Q ret
  unfold f_Hp_removeEntriesBelow at h
  refine v_iconst 0 d_Hp_removeEntriesBelow_0 (by decide) rfl ?_
  refine v_istore_n (lo' := [_, _, _, none]) d_Hp_removeEntriesBelow_1 rfl (by decide) rfl ?_
  refine v_iconst 0 d_Hp_removeEntriesBelow_2 (by decide) rfl ?_
  refine v_istore_n (lo' := [_, _, _, _]) d_Hp_removeEntriesBelow_3 rfl (by decide) rfl ?_
  have L4 : ∀ (κ : Int32 → Mem → Rs), (∀ (x12 : Int32) (u13 : Mem), κ x12 u13 = some (r, w) → VJ p l e 0 0 0 0 s m args below meth c 0 0 Q A b_Hp_removeEntriesBelow 4 R_Hp (dC, dI) cA (wA ad cA) 46 [none, none, some (.int x12), none] [] u13) → ∀ (n : Nat) (x1 x2 x3 : Int32) (u4 : Mem), k_Hp_removeEntriesBelow_4 N κ n x1 x2 x3 u4 = some (r, w) → VJ p l e 0 0 0 0 s m args below meth c 0 0 Q A b_Hp_removeEntriesBelow 4 R_Hp (dC, dI) cA (wA ad cA) 4 [some (.ref (ad 2)), some (.int x1), some (.int x2), some (.int x3)] [] u4 := by
    intro κ hκ n
    induction n with
    | zero =>
      intro x1 x2 x3 u4 h
      exact no_ns h
    | succ n ih =>
      intro x1 x2 x3 u4 h
      unfold k_Hp_removeEntriesBelow_4 at h
      refine v_iload_n d_Hp_removeEntriesBelow_4 rfl rfl ?_
      refine v_bipush 24 d_Hp_removeEntriesBelow_5 (by decide) rfl ?_
      refine v_icmp_ge 46 d_Hp_removeEntriesBelow_7 (by decide) rfl (fun c11 => ?_) (fun c11 => ?_)
      · replace h := (if_pos c11).symm.trans h
        refine v_drop 0 (lo' := [none, _, _, _]) rfl ?_
        refine v_drop 1 (lo' := [none, none, _, _]) rfl ?_
        refine v_drop 3 (lo' := [none, none, _, none]) rfl ?_
        exact hκ _ _ h
      · replace h := (if_neg c11).symm.trans h
        refine v_aload_n d_Hp_removeEntriesBelow_10 rfl rfl ?_
        refine vg_Hp_entries d_Hp_removeEntriesBelow_11 rfl ?_
        refine v_iload_n d_Hp_removeEntriesBelow_14 rfl rfl ?_
        obtain ⟨g5, h⟩ := gd_inv h
        refine v_ald 5 (wA_5 ad cA _) d_Hp_removeEntriesBelow_15 g5 rfl ?_
        refine v_iconst (-1) d_Hp_removeEntriesBelow_16 (by decide) rfl ?_
        refine v_icmp_eq 40 d_Hp_removeEntriesBelow_17 (by decide) rfl (fun c10 => ?_) (fun c10 => ?_)
        · replace h := (if_pos c10).symm.trans h
          refine v_iinc (lo' := [_, _, _, _]) 1 d_Hp_removeEntriesBelow_40 (by decide) rfl rfl (by decide) rfl ?_
          refine v_goto 4 d_Hp_removeEntriesBelow_43 (by decide) ?_
          exact ih _ _ _ _ h
        · replace h := (if_neg c10).symm.trans h
          refine v_aload_n d_Hp_removeEntriesBelow_20 rfl rfl ?_
          refine vg_Hp_entries d_Hp_removeEntriesBelow_21 rfl ?_
          refine v_iload_n d_Hp_removeEntriesBelow_24 rfl rfl ?_
          obtain ⟨g6, h⟩ := gd_inv h
          refine v_ald 5 (wA_5 ad cA _) d_Hp_removeEntriesBelow_25 g6 rfl ?_
          refine v_iload_n d_Hp_removeEntriesBelow_26 rfl rfl ?_
          refine v_icmp_ge 40 d_Hp_removeEntriesBelow_27 (by decide) rfl (fun c9 => ?_) (fun c9 => ?_)
          · replace h := (if_pos c9).symm.trans h
            refine v_iinc (lo' := [_, _, _, _]) 1 d_Hp_removeEntriesBelow_40 (by decide) rfl rfl (by decide) rfl ?_
            refine v_goto 4 d_Hp_removeEntriesBelow_43 (by decide) ?_
            exact ih _ _ _ _ h
          · replace h := (if_neg c9).symm.trans h
            refine v_aload_n d_Hp_removeEntriesBelow_30 rfl rfl ?_
            refine vg_Hp_entries d_Hp_removeEntriesBelow_31 rfl ?_
            refine v_iload_n d_Hp_removeEntriesBelow_34 rfl rfl ?_
            refine v_iconst (-1) d_Hp_removeEntriesBelow_35 (by decide) rfl ?_
            obtain ⟨g7, h⟩ := gd_inv h
            obtain ⟨u8, eu8, h⟩ := jn_inv h
            refine v_ast 5 (wA_5 ad cA _) (ws_5 ad cA _ _ _) eu8 d_Hp_removeEntriesBelow_36 g7 rfl ?_
            refine v_iinc (lo' := [_, _, _, _]) 1 d_Hp_removeEntriesBelow_37 (by decide) rfl rfl (by decide) rfl ?_
            refine v_iinc (lo' := [_, _, _, _]) 1 d_Hp_removeEntriesBelow_40 (by decide) rfl rfl (by decide) rfl ?_
            refine v_goto 4 d_Hp_removeEntriesBelow_43 (by decide) ?_
            exact ih _ _ _ _ h
  refine L4 _ (fun x12 u13 h => ?_) N _ _ _ _ h
  refine v_iload_n d_Hp_removeEntriesBelow_46 rfl rfl ?_
  obtain ⟨e1, e2⟩ := rt_inv h
  exact ret _ _ _ _ ⟨e1, e2⟩ d_Hp_removeEntriesBelow_47
theorem vc_Sh_Hp_removeEntriesBelow {p : Program} {l : Launch} {e : Env} {fr rc rs rl : Nat} {s : State} {m : MethodId} {args : Array Value} {below : List Frame} {meth : Method} {c : Code} {cells slots : Nat} {Q : State → Prop} {A : Nat → Prop} {cc : ByteArray} {nL : Nat} {dC : Nat → ClassId} {dI : Nat → Nat → Nat} {cA : ClassId} {ad : Nat → Nat} {pc q : Nat} {lo : List (Option Value)} {rest : List Value} {u w : Mem} {r : Int32} {N : Nat} {b0 : Int32} (h : f_Hp_removeEntriesBelow N b0 u = some (r, w)) (hfr : 0 + 1 ≤ fr) (hrl : 8 + (4 + 11) + 0 ≤ rl) (hrm : (rest.map fun v => v.category).sum ≤ 8) (hd : decode cc pc = .ok (.invokevirtual 136, 3)) (hq : pc + 3 = q) (k : VJ p l e fr rc rs rl s m args below meth c cells slots Q A cc nL R_Sh (dC, dI) cA (wA ad cA) q lo (.int r :: rest) w) : VJ p l e fr rc rs rl s m args below meth c cells slots Q A cc nL R_Sh (dC, dI) cA (wA ad cA) pc lo (.int b0 :: .ref (ad 2) :: rest) u :=
  v_callVI (As := [.int b0]) (rest := rest) (fun sz => c_Hp_removeEntriesBelow l dC dI ad cA sz N b0 u r w h) tw_339 tw_340 tw_341 2 (wA_2 ad cA u) rfl rfl tw_342 tw_25 1 rfl (by decide +kernel) hfr hrl rfl hrm hd hq (fun v w1 hE => by obtain ⟨rfl, rfl⟩ := hE; exact k)
theorem d_Sh_round_0 : decode b_Sh_round 0 = .ok (.ldc 43, 2) := by decide +kernel
theorem d_Sh_round_2 : decode b_Sh_round 2 = .ok (.istore_n 1, 1) := by decide +kernel
theorem d_Sh_round_3 : decode b_Sh_round 3 = .ok (.iconst 0, 1) := by decide +kernel
theorem d_Sh_round_4 : decode b_Sh_round 4 = .ok (.istore_n 2, 1) := by decide +kernel
theorem d_Sh_round_5 : decode b_Sh_round 5 = .ok (.iload_n 2, 1) := by decide +kernel
theorem d_Sh_round_6 : decode b_Sh_round 6 = .ok (.iconst 3, 1) := by decide +kernel
theorem d_Sh_round_7 : decode b_Sh_round 7 = .ok (.if_icmp .ge 19, 3) := by decide +kernel
theorem d_Sh_round_10 : decode b_Sh_round 10 = .ok (.iload_n 1, 1) := by decide +kernel
theorem d_Sh_round_11 : decode b_Sh_round 11 = .ok (.aload_n 0, 1) := by decide +kernel
theorem d_Sh_round_12 : decode b_Sh_round 12 = .ok (.iload_n 2, 1) := by decide +kernel
theorem d_Sh_round_13 : decode b_Sh_round 13 = .ok (.invokevirtual 122, 3) := by decide +kernel
theorem d_Sh_round_16 : decode b_Sh_round 16 = .ok (.invokestatic 125, 3) := by decide +kernel
theorem d_Sh_round_19 : decode b_Sh_round 19 = .ok (.istore_n 1, 1) := by decide +kernel
theorem d_Sh_round_20 : decode b_Sh_round 20 = .ok (.iinc 2 1, 3) := by decide +kernel
theorem d_Sh_round_23 : decode b_Sh_round 23 = .ok (.goto (-18), 3) := by decide +kernel
theorem d_Sh_round_26 : decode b_Sh_round 26 = .ok (.aload_n 0, 1) := by decide +kernel
theorem d_Sh_round_27 : decode b_Sh_round 27 = .ok (.aload_n 0, 1) := by decide +kernel
theorem d_Sh_round_28 : decode b_Sh_round 28 = .ok (.getfield 130, 3) := by decide +kernel
theorem d_Sh_round_31 : decode b_Sh_round 31 = .ok (.iload_n 1, 1) := by decide +kernel
theorem d_Sh_round_32 : decode b_Sh_round 32 = .ok (.invokestatic 133, 3) := by decide +kernel
theorem d_Sh_round_35 : decode b_Sh_round 35 = .ok (.putfield 130, 3) := by decide +kernel
theorem d_Sh_round_38 : decode b_Sh_round 38 = .ok (.aload_n 0, 1) := by decide +kernel
theorem d_Sh_round_39 : decode b_Sh_round 39 = .ok (.getfield 16, 3) := by decide +kernel
theorem d_Sh_round_42 : decode b_Sh_round 42 = .ok (.aload_n 0, 1) := by decide +kernel
theorem d_Sh_round_43 : decode b_Sh_round 43 = .ok (.getfield 130, 3) := by decide +kernel
theorem d_Sh_round_46 : decode b_Sh_round 46 = .ok (.invokevirtual 136, 3) := by decide +kernel
theorem d_Sh_round_49 : decode b_Sh_round 49 = .ok (.ireturn, 1) := by decide +kernel
set_option maxHeartbeats 4000000 in
set_option maxRecDepth 100000 in
theorem c_Sh_round (l : Launch) (dC : Nat → ClassId) (dI : Nat → Nat → Nat) (ad : Nat → Nat) (cA : ClassId) (sz : Nat) (N : Nat) (u : Mem) (r : Int32) (w : Mem) (h : f_Sh_round N u = some (r, w)) : CtI l y_Sh_round (Cond.code y_Sh_round b_Sh_round 3 (some .int) :: lw_gd) 3 66 (dC, dI) cA [.ref (ad 0)] (wA ad cA) u sz (fun v w1 => v = r ∧ w1 = w) := by
  refine v_metI (own := R_Sh) [some (.ref (ad 0)), none, none] rfl (by decide) (Nat.le_of_ble_eq_true rfl) rfl rfl (fun v u h => rfl) ?_
  intro p e s m args below meth c A Q ret
  unfold f_Sh_round at h
  refine v_ldc tw_90 d_Sh_round_0 rfl ?_
  refine v_istore_n (lo' := [_, _, none]) d_Sh_round_2 rfl (by decide) rfl ?_
  refine v_iconst 0 d_Sh_round_3 (by decide) rfl ?_
  refine v_istore_n (lo' := [_, _, _]) d_Sh_round_4 rfl (by decide) rfl ?_
  have L5 : ∀ (κ : Int32 → Mem → Rs), (∀ (x8 : Int32) (u9 : Mem), κ x8 u9 = some (r, w) → VJ p l e 3 0 0 66 s m args below meth c 0 0 Q A b_Sh_round 3 R_Sh (dC, dI) cA (wA ad cA) 26 [some (.ref (ad 0)), some (.int x8), none] [] u9) → ∀ (n : Nat) (x1 x2 : Int32) (u3 : Mem), k_Sh_round_5 N κ n x1 x2 u3 = some (r, w) → VJ p l e 3 0 0 66 s m args below meth c 0 0 Q A b_Sh_round 3 R_Sh (dC, dI) cA (wA ad cA) 5 [some (.ref (ad 0)), some (.int x1), some (.int x2)] [] u3 := by
    intro κ hκ n
    induction n with
    | zero =>
      intro x1 x2 u3 h
      exact no_ns h
    | succ n ih =>
      intro x1 x2 u3 h
      unfold k_Sh_round_5 at h
      refine v_iload_n d_Sh_round_5 rfl rfl ?_
      refine v_iconst 3 d_Sh_round_6 (by decide) rfl ?_
      refine v_icmp_ge 26 d_Sh_round_7 (by decide) rfl (fun c7 => ?_) (fun c7 => ?_)
      · replace h := (if_pos c7).symm.trans h
        refine v_drop 2 (lo' := [_, _, none]) rfl ?_
        exact hκ _ _ h
      · replace h := (if_neg c7).symm.trans h
        refine v_iload_n d_Sh_round_10 rfl rfl ?_
        refine v_aload_n d_Sh_round_11 rfl rfl ?_
        refine v_iload_n d_Sh_round_12 rfl rfl ?_
        obtain ⟨y4, u5, hc6, h⟩ := bd_inv h
        refine vc_Sh_Sh_redoOf hc6 (Nat.le_of_ble_eq_true rfl) (Nat.le_of_ble_eq_true rfl) (Nat.le_of_ble_eq_true rfl) d_Sh_round_13 rfl ?_
        refine v_mmin tw_180 tw_181 tw_29 tw_182 (Nat.le_of_ble_eq_true rfl) (Nat.le_of_ble_eq_true rfl) d_Sh_round_16 rfl ?_
        refine v_istore_n (lo' := [_, _, _]) d_Sh_round_19 rfl (by decide) rfl ?_
        refine v_iinc (lo' := [_, _, _]) 1 d_Sh_round_20 (by decide) rfl rfl (by decide) rfl ?_
        refine v_goto 5 d_Sh_round_23 (by decide) ?_
        exact ih _ _ _ h
  refine L5 _ (fun x8 u9 h => ?_) N _ _ _ h
  refine v_aload_n d_Sh_round_26 rfl rfl ?_
  refine v_aload_n d_Sh_round_27 rfl rfl ?_
  refine vg_Sh_threshold d_Sh_round_28 rfl ?_
  refine v_iload_n d_Sh_round_31 rfl rfl ?_
  refine v_mmax tw_247 tw_248 tw_29 tw_249 (Nat.le_of_ble_eq_true rfl) (Nat.le_of_ble_eq_true rfl) d_Sh_round_32 rfl ?_
  obtain ⟨u10, eu10, h⟩ := jn_inv h
  refine vp_Sh_threshold eu10 d_Sh_round_35 rfl ?_
  refine v_aload_n d_Sh_round_38 rfl rfl ?_
  refine vg_Sh_heap d_Sh_round_39 rfl ?_
  refine v_aload_n d_Sh_round_42 rfl rfl ?_
  refine vg_Sh_threshold d_Sh_round_43 rfl ?_
  obtain ⟨y11, u12, hc13, h⟩ := bd_inv h
  refine vc_Sh_Hp_removeEntriesBelow hc13 (Nat.le_of_ble_eq_true rfl) (Nat.le_of_ble_eq_true rfl) (Nat.le_of_ble_eq_true rfl) d_Sh_round_46 rfl ?_
  obtain ⟨e1, e2⟩ := rt_inv h
  exact ret _ _ _ _ ⟨e1, e2⟩ d_Sh_round_49
theorem vc_La_Sh_round {p : Program} {l : Launch} {e : Env} {fr rc rs rl : Nat} {s : State} {m : MethodId} {args : Array Value} {below : List Frame} {meth : Method} {c : Code} {cells slots : Nat} {Q : State → Prop} {A : Nat → Prop} {cc : ByteArray} {nL : Nat} {dC : Nat → ClassId} {dI : Nat → Nat → Nat} {cA : ClassId} {ad : Nat → Nat} {pc q : Nat} {lo : List (Option Value)} {rest : List Value} {u w : Mem} {r : Int32} {N : Nat} (h : f_Sh_round N u = some (r, w)) (hfr : 3 + 1 ≤ fr) (hrl : 8 + (3 + 11) + 66 ≤ rl) (hrm : (rest.map fun v => v.category).sum ≤ 8) (hd : decode cc pc = .ok (.invokevirtual 47, 3)) (hq : pc + 3 = q) (k : VJ p l e fr rc rs rl s m args below meth c cells slots Q A cc nL R_La (dC, dI) cA (wA ad cA) q lo (.int r :: rest) w) : VJ p l e fr rc rs rl s m args below meth c cells slots Q A cc nL R_La (dC, dI) cA (wA ad cA) pc lo (.ref (ad 0) :: rest) u :=
  v_callVI (As := []) (rest := rest) (fun sz => c_Sh_round l dC dI ad cA sz N u r w h) tw_324 tw_325 tw_326 0 (wA_0 ad cA u) rfl rfl tw_327 tw_24 0 rfl (by decide +kernel) hfr hrl rfl hrm hd hq (fun v w1 hE => by obtain ⟨rfl, rfl⟩ := hE; exact k)
theorem d_Sh_root_0 : decode b_Sh_root 0 = .ok (.iload_n 1, 1) := by decide +kernel
theorem d_Sh_root_1 : decode b_Sh_root 1 = .ok (.iload_n 2, 1) := by decide +kernel
theorem d_Sh_root_2 : decode b_Sh_root 2 = .ok (.invokestatic 44, 3) := by decide +kernel
theorem d_Sh_root_5 : decode b_Sh_root 5 = .ok (.ifCond .eq 16, 3) := by decide +kernel
theorem d_Sh_root_8 : decode b_Sh_root 8 = .ok (.aload_n 0, 1) := by decide +kernel
theorem d_Sh_root_9 : decode b_Sh_root 9 = .ok (.getfield 9, 3) := by decide +kernel
theorem d_Sh_root_12 : decode b_Sh_root 12 = .ok (.iload_n 1, 1) := by decide +kernel
theorem d_Sh_root_13 : decode b_Sh_root 13 = .ok (.iconst 3, 1) := by decide +kernel
theorem d_Sh_root_14 : decode b_Sh_root 14 = .ok (.imul, 1) := by decide +kernel
theorem d_Sh_root_15 : decode b_Sh_root 15 = .ok (.iload_n 2, 1) := by decide +kernel
theorem d_Sh_root_16 : decode b_Sh_root 16 = .ok (.iadd, 1) := by decide +kernel
theorem d_Sh_root_17 : decode b_Sh_root 17 = .ok (.iaload, 1) := by decide +kernel
theorem d_Sh_root_18 : decode b_Sh_root 18 = .ok (.goto 4, 3) := by decide +kernel
theorem d_Sh_root_21 : decode b_Sh_root 21 = .ok (.iconst (-1), 1) := by decide +kernel
theorem d_Sh_root_22 : decode b_Sh_root 22 = .ok (.ireturn, 1) := by decide +kernel
set_option maxHeartbeats 4000000 in
set_option maxRecDepth 100000 in
theorem c_Sh_root (l : Launch) (dC : Nat → ClassId) (dI : Nat → Nat → Nat) (ad : Nat → Nat) (cA : ClassId) (sz : Nat) (N : Nat) (a1 a2 : Int32) (u : Mem) (r : Int32) (w : Mem) (h : f_Sh_root N a1 a2 u = some (r, w)) : CtI l y_Sh_root (Cond.code y_Sh_root b_Sh_root 3 (some .int) :: lw_gd) 2 41 (dC, dI) cA [.ref (ad 0), .int a1, .int a2] (wA ad cA) u sz (fun v w1 => v = r ∧ w1 = w) := by
  refine v_metI (own := R_Sh) [some (.ref (ad 0)), some (.int a1), some (.int a2)] rfl (by decide) (Nat.le_of_ble_eq_true rfl) rfl rfl (fun v u h => rfl) ?_
  intro p e s m args below meth c A Q ret
  unfold f_Sh_root at h
  refine v_iload_n d_Sh_root_0 rfl rfl ?_
  refine v_iload_n d_Sh_root_1 rfl rfl ?_
  obtain ⟨y1, u2, hc3, h⟩ := bd_inv h
  refine vc_Sh_Sh_isRoot hc3 (Nat.le_of_ble_eq_true rfl) (Nat.le_of_ble_eq_true rfl) (Nat.le_of_ble_eq_true rfl) d_Sh_root_2 rfl ?_
  refine v_if_eq 21 d_Sh_root_5 (by decide) rfl (fun c5 => ?_) (fun c5 => ?_)
  · replace h := (if_pos c5).symm.trans h
    refine v_iconst (-1) d_Sh_root_21 (by decide) rfl ?_
    obtain ⟨e1, e2⟩ := rt_inv h
    exact ret _ _ _ _ ⟨e1, e2⟩ d_Sh_root_22
  · replace h := (if_neg c5).symm.trans h
    refine v_aload_n d_Sh_root_8 rfl rfl ?_
    refine vg_Sh_roots d_Sh_root_9 rfl ?_
    refine v_iload_n d_Sh_root_12 rfl rfl ?_
    refine v_iconst 3 d_Sh_root_13 (by decide) rfl ?_
    refine v_imul d_Sh_root_14 rfl ?_
    refine v_iload_n d_Sh_root_15 rfl rfl ?_
    refine v_iadd d_Sh_root_16 rfl ?_
    obtain ⟨g4, h⟩ := gd_inv h
    refine v_ald 1 (wA_1 ad cA _) d_Sh_root_17 g4 rfl ?_
    refine v_goto 22 d_Sh_root_18 (by decide) ?_
    obtain ⟨e1, e2⟩ := rt_inv h
    exact ret _ _ _ _ ⟨e1, e2⟩ d_Sh_root_22
theorem vc_La_Sh_root {p : Program} {l : Launch} {e : Env} {fr rc rs rl : Nat} {s : State} {m : MethodId} {args : Array Value} {below : List Frame} {meth : Method} {c : Code} {cells slots : Nat} {Q : State → Prop} {A : Nat → Prop} {cc : ByteArray} {nL : Nat} {dC : Nat → ClassId} {dI : Nat → Nat → Nat} {cA : ClassId} {ad : Nat → Nat} {pc q : Nat} {lo : List (Option Value)} {rest : List Value} {u w : Mem} {r : Int32} {N : Nat} {b0 b1 : Int32} (h : f_Sh_root N b0 b1 u = some (r, w)) (hfr : 2 + 1 ≤ fr) (hrl : 8 + (3 + 11) + 41 ≤ rl) (hrm : (rest.map fun v => v.category).sum ≤ 8) (hd : decode cc pc = .ok (.invokevirtual 52, 3)) (hq : pc + 3 = q) (k : VJ p l e fr rc rs rl s m args below meth c cells slots Q A cc nL R_La (dC, dI) cA (wA ad cA) q lo (.int r :: rest) w) : VJ p l e fr rc rs rl s m args below meth c cells slots Q A cc nL R_La (dC, dI) cA (wA ad cA) pc lo (.int b1 :: .int b0 :: .ref (ad 0) :: rest) u :=
  v_callVI (As := [.int b0, .int b1]) (rest := rest) (fun sz => c_Sh_root l dC dI ad cA sz N b0 b1 u r w h) tw_343 tw_344 tw_345 0 (wA_0 ad cA u) rfl rfl tw_346 tw_24 2 rfl (by decide +kernel) hfr hrl rfl hrm hd hq (fun v w1 hE => by obtain ⟨rfl, rfl⟩ := hE; exact k)
theorem d_Sh_field_0 : decode b_Sh_field 0 = .ok (.aload_n 0, 1) := by decide +kernel
theorem d_Sh_field_1 : decode b_Sh_field 1 = .ok (.getfield 16, 3) := by decide +kernel
theorem d_Sh_field_4 : decode b_Sh_field 4 = .ok (.iload_n 1, 1) := by decide +kernel
theorem d_Sh_field_5 : decode b_Sh_field 5 = .ok (.invokevirtual 70, 3) := by decide +kernel
theorem d_Sh_field_8 : decode b_Sh_field 8 = .ok (.istore_n 3, 1) := by decide +kernel
theorem d_Sh_field_9 : decode b_Sh_field 9 = .ok (.iload_n 3, 1) := by decide +kernel
theorem d_Sh_field_10 : decode b_Sh_field 10 = .ok (.iconst (-1), 1) := by decide +kernel
theorem d_Sh_field_11 : decode b_Sh_field 11 = .ok (.if_icmp .eq 22, 3) := by decide +kernel
theorem d_Sh_field_14 : decode b_Sh_field 14 = .ok (.iload_n 2, 1) := by decide +kernel
theorem d_Sh_field_15 : decode b_Sh_field 15 = .ok (.invokestatic 67, 3) := by decide +kernel
theorem d_Sh_field_18 : decode b_Sh_field 18 = .ok (.ifCond .eq 15, 3) := by decide +kernel
theorem d_Sh_field_21 : decode b_Sh_field 21 = .ok (.aload_n 0, 1) := by decide +kernel
theorem d_Sh_field_22 : decode b_Sh_field 22 = .ok (.getfield 16, 3) := by decide +kernel
theorem d_Sh_field_25 : decode b_Sh_field 25 = .ok (.iload_n 3, 1) := by decide +kernel
theorem d_Sh_field_26 : decode b_Sh_field 26 = .ok (.iload_n 2, 1) := by decide +kernel
theorem d_Sh_field_27 : decode b_Sh_field 27 = .ok (.invokevirtual 73, 3) := by decide +kernel
theorem d_Sh_field_30 : decode b_Sh_field 30 = .ok (.goto 4, 3) := by decide +kernel
theorem d_Sh_field_33 : decode b_Sh_field 33 = .ok (.iconst (-1), 1) := by decide +kernel
theorem d_Sh_field_34 : decode b_Sh_field 34 = .ok (.ireturn, 1) := by decide +kernel
set_option maxHeartbeats 4000000 in
set_option maxRecDepth 100000 in
theorem c_Sh_field (l : Launch) (dC : Nat → ClassId) (dI : Nat → Nat → Nat) (ad : Nat → Nat) (cA : ClassId) (sz : Nat) (N : Nat) (a1 a2 : Int32) (u : Mem) (r : Int32) (w : Mem) (h : f_Sh_field N a1 a2 u = some (r, w)) : CtI l y_Sh_field (Cond.code y_Sh_field b_Sh_field 4 (some .int) :: lw_gd) 1 22 (dC, dI) cA [.ref (ad 0), .int a1, .int a2] (wA ad cA) u sz (fun v w1 => v = r ∧ w1 = w) := by
  refine v_metI (own := R_Sh) [some (.ref (ad 0)), some (.int a1), some (.int a2), none] rfl (by decide) (Nat.le_of_ble_eq_true rfl) rfl rfl (fun v u h => rfl) ?_
  intro p e s m args below meth c A Q ret
  unfold f_Sh_field at h
  refine v_aload_n d_Sh_field_0 rfl rfl ?_
  refine vg_Sh_heap d_Sh_field_1 rfl ?_
  refine v_iload_n d_Sh_field_4 rfl rfl ?_
  obtain ⟨y1, u2, hc3, h⟩ := bd_inv h
  refine vc_Sh_Hp_slotOf hc3 (Nat.le_of_ble_eq_true rfl) (Nat.le_of_ble_eq_true rfl) (Nat.le_of_ble_eq_true rfl) d_Sh_field_5 rfl ?_
  refine v_istore_n (lo' := [_, _, _, _]) d_Sh_field_8 rfl (by decide) rfl ?_
  refine v_iload_n d_Sh_field_9 rfl rfl ?_
  refine v_iconst (-1) d_Sh_field_10 (by decide) rfl ?_
  refine v_icmp_eq 33 d_Sh_field_11 (by decide) rfl (fun c11 => ?_) (fun c11 => ?_)
  · replace h := (if_pos c11).symm.trans h
    refine v_iconst (-1) d_Sh_field_33 (by decide) rfl ?_
    obtain ⟨e1, e2⟩ := rt_inv h
    exact ret _ _ _ _ ⟨e1, e2⟩ d_Sh_field_34
  · replace h := (if_neg c11).symm.trans h
    refine v_iload_n d_Sh_field_14 rfl rfl ?_
    obtain ⟨y4, u5, hc6, h⟩ := bd_inv h
    refine vc_Sh_Sh_isField hc6 (Nat.le_of_ble_eq_true rfl) (Nat.le_of_ble_eq_true rfl) (Nat.le_of_ble_eq_true rfl) d_Sh_field_15 rfl ?_
    refine v_if_eq 33 d_Sh_field_18 (by decide) rfl (fun c10 => ?_) (fun c10 => ?_)
    · replace h := (if_pos c10).symm.trans h
      refine v_iconst (-1) d_Sh_field_33 (by decide) rfl ?_
      obtain ⟨e1, e2⟩ := rt_inv h
      exact ret _ _ _ _ ⟨e1, e2⟩ d_Sh_field_34
    · replace h := (if_neg c10).symm.trans h
      refine v_aload_n d_Sh_field_21 rfl rfl ?_
      refine vg_Sh_heap d_Sh_field_22 rfl ?_
      refine v_iload_n d_Sh_field_25 rfl rfl ?_
      refine v_iload_n d_Sh_field_26 rfl rfl ?_
      obtain ⟨y7, u8, hc9, h⟩ := bd_inv h
      refine vc_Sh_Hp_fieldAt hc9 (Nat.le_of_ble_eq_true rfl) (Nat.le_of_ble_eq_true rfl) (Nat.le_of_ble_eq_true rfl) d_Sh_field_27 rfl ?_
      refine v_goto 34 d_Sh_field_30 (by decide) ?_
      obtain ⟨e1, e2⟩ := rt_inv h
      exact ret _ _ _ _ ⟨e1, e2⟩ d_Sh_field_34
theorem vc_La_Sh_field {p : Program} {l : Launch} {e : Env} {fr rc rs rl : Nat} {s : State} {m : MethodId} {args : Array Value} {below : List Frame} {meth : Method} {c : Code} {cells slots : Nat} {Q : State → Prop} {A : Nat → Prop} {cc : ByteArray} {nL : Nat} {dC : Nat → ClassId} {dI : Nat → Nat → Nat} {cA : ClassId} {ad : Nat → Nat} {pc q : Nat} {lo : List (Option Value)} {rest : List Value} {u w : Mem} {r : Int32} {N : Nat} {b0 b1 : Int32} (h : f_Sh_field N b0 b1 u = some (r, w)) (hfr : 1 + 1 ≤ fr) (hrl : 8 + (4 + 11) + 22 ≤ rl) (hrm : (rest.map fun v => v.category).sum ≤ 8) (hd : decode cc pc = .ok (.invokevirtual 57, 3)) (hq : pc + 3 = q) (k : VJ p l e fr rc rs rl s m args below meth c cells slots Q A cc nL R_La (dC, dI) cA (wA ad cA) q lo (.int r :: rest) w) : VJ p l e fr rc rs rl s m args below meth c cells slots Q A cc nL R_La (dC, dI) cA (wA ad cA) pc lo (.int b1 :: .int b0 :: .ref (ad 0) :: rest) u :=
  v_callVI (As := [.int b0, .int b1]) (rest := rest) (fun sz => c_Sh_field l dC dI ad cA sz N b0 b1 u r w h) tw_347 tw_348 tw_349 0 (wA_0 ad cA u) rfl rfl tw_350 tw_24 2 rfl (by decide +kernel) hfr hrl rfl hrm hd hq (fun v w1 hE => by obtain ⟨rfl, rfl⟩ := hE; exact k)
theorem d_Sh_owner_0 : decode b_Sh_owner 0 = .ok (.aload_n 0, 1) := by decide +kernel
theorem d_Sh_owner_1 : decode b_Sh_owner 1 = .ok (.getfield 16, 3) := by decide +kernel
theorem d_Sh_owner_4 : decode b_Sh_owner 4 = .ok (.iload_n 1, 1) := by decide +kernel
theorem d_Sh_owner_5 : decode b_Sh_owner 5 = .ok (.invokevirtual 70, 3) := by decide +kernel
theorem d_Sh_owner_8 : decode b_Sh_owner 8 = .ok (.istore_n 2, 1) := by decide +kernel
theorem d_Sh_owner_9 : decode b_Sh_owner 9 = .ok (.iload_n 2, 1) := by decide +kernel
theorem d_Sh_owner_10 : decode b_Sh_owner 10 = .ok (.iconst (-1), 1) := by decide +kernel
theorem d_Sh_owner_11 : decode b_Sh_owner 11 = .ok (.if_icmp .eq 10, 3) := by decide +kernel
theorem d_Sh_owner_14 : decode b_Sh_owner 14 = .ok (.iload_n 2, 1) := by decide +kernel
theorem d_Sh_owner_15 : decode b_Sh_owner 15 = .ok (.invokestatic 77, 3) := by decide +kernel
theorem d_Sh_owner_18 : decode b_Sh_owner 18 = .ok (.goto 4, 3) := by decide +kernel
theorem d_Sh_owner_21 : decode b_Sh_owner 21 = .ok (.iconst (-1), 1) := by decide +kernel
theorem d_Sh_owner_22 : decode b_Sh_owner 22 = .ok (.ireturn, 1) := by decide +kernel
set_option maxHeartbeats 4000000 in
set_option maxRecDepth 100000 in
theorem c_Sh_owner (l : Launch) (dC : Nat → ClassId) (dI : Nat → Nat → Nat) (ad : Nat → Nat) (cA : ClassId) (sz : Nat) (N : Nat) (a1 : Int32) (u : Mem) (r : Int32) (w : Mem) (h : f_Sh_owner N a1 u = some (r, w)) : CtI l y_Sh_owner (Cond.code y_Sh_owner b_Sh_owner 3 (some .int) :: lw_gd) 1 22 (dC, dI) cA [.ref (ad 0), .int a1] (wA ad cA) u sz (fun v w1 => v = r ∧ w1 = w) := by
  refine v_metI (own := R_Sh) [some (.ref (ad 0)), some (.int a1), none] rfl (by decide) (Nat.le_of_ble_eq_true rfl) rfl rfl (fun v u h => rfl) ?_
  intro p e s m args below meth c A Q ret
  unfold f_Sh_owner at h
  refine v_aload_n d_Sh_owner_0 rfl rfl ?_
  refine vg_Sh_heap d_Sh_owner_1 rfl ?_
  refine v_iload_n d_Sh_owner_4 rfl rfl ?_
  obtain ⟨y1, u2, hc3, h⟩ := bd_inv h
  refine vc_Sh_Hp_slotOf hc3 (Nat.le_of_ble_eq_true rfl) (Nat.le_of_ble_eq_true rfl) (Nat.le_of_ble_eq_true rfl) d_Sh_owner_5 rfl ?_
  refine v_istore_n (lo' := [_, _, _]) d_Sh_owner_8 rfl (by decide) rfl ?_
  refine v_iload_n d_Sh_owner_9 rfl rfl ?_
  refine v_iconst (-1) d_Sh_owner_10 (by decide) rfl ?_
  refine v_icmp_eq 21 d_Sh_owner_11 (by decide) rfl (fun c7 => ?_) (fun c7 => ?_)
  · replace h := (if_pos c7).symm.trans h
    refine v_iconst (-1) d_Sh_owner_21 (by decide) rfl ?_
    obtain ⟨e1, e2⟩ := rt_inv h
    exact ret _ _ _ _ ⟨e1, e2⟩ d_Sh_owner_22
  · replace h := (if_neg c7).symm.trans h
    refine v_iload_n d_Sh_owner_14 rfl rfl ?_
    obtain ⟨y4, u5, hc6, h⟩ := bd_inv h
    refine vc_Sh_Hp_nodeOf hc6 (Nat.le_of_ble_eq_true rfl) (Nat.le_of_ble_eq_true rfl) (Nat.le_of_ble_eq_true rfl) d_Sh_owner_15 rfl ?_
    refine v_goto 22 d_Sh_owner_18 (by decide) ?_
    obtain ⟨e1, e2⟩ := rt_inv h
    exact ret _ _ _ _ ⟨e1, e2⟩ d_Sh_owner_22
theorem vc_La_Sh_owner {p : Program} {l : Launch} {e : Env} {fr rc rs rl : Nat} {s : State} {m : MethodId} {args : Array Value} {below : List Frame} {meth : Method} {c : Code} {cells slots : Nat} {Q : State → Prop} {A : Nat → Prop} {cc : ByteArray} {nL : Nat} {dC : Nat → ClassId} {dI : Nat → Nat → Nat} {cA : ClassId} {ad : Nat → Nat} {pc q : Nat} {lo : List (Option Value)} {rest : List Value} {u w : Mem} {r : Int32} {N : Nat} {b0 : Int32} (h : f_Sh_owner N b0 u = some (r, w)) (hfr : 1 + 1 ≤ fr) (hrl : 8 + (3 + 11) + 22 ≤ rl) (hrm : (rest.map fun v => v.category).sum ≤ 8) (hd : decode cc pc = .ok (.invokevirtual 61, 3)) (hq : pc + 3 = q) (k : VJ p l e fr rc rs rl s m args below meth c cells slots Q A cc nL R_La (dC, dI) cA (wA ad cA) q lo (.int r :: rest) w) : VJ p l e fr rc rs rl s m args below meth c cells slots Q A cc nL R_La (dC, dI) cA (wA ad cA) pc lo (.int b0 :: .ref (ad 0) :: rest) u :=
  v_callVI (As := [.int b0]) (rest := rest) (fun sz => c_Sh_owner l dC dI ad cA sz N b0 u r w h) tw_351 tw_352 tw_353 0 (wA_0 ad cA u) rfl rfl tw_354 tw_24 1 rfl (by decide +kernel) hfr hrl rfl hrm hd hq (fun v w1 hE => by obtain ⟨rfl, rfl⟩ := hE; exact k)
theorem d_Sh_objects_0 : decode b_Sh_objects 0 = .ok (.iload_n 1, 1) := by decide +kernel
theorem d_Sh_objects_1 : decode b_Sh_objects 1 = .ok (.invokestatic 48, 3) := by decide +kernel
theorem d_Sh_objects_4 : decode b_Sh_objects 4 = .ok (.ifCond .eq 14, 3) := by decide +kernel
theorem d_Sh_objects_7 : decode b_Sh_objects 7 = .ok (.aload_n 0, 1) := by decide +kernel
theorem d_Sh_objects_8 : decode b_Sh_objects 8 = .ok (.getfield 16, 3) := by decide +kernel
theorem d_Sh_objects_11 : decode b_Sh_objects 11 = .ok (.iload_n 1, 1) := by decide +kernel
theorem d_Sh_objects_12 : decode b_Sh_objects 12 = .ok (.invokevirtual 52, 3) := by decide +kernel
theorem d_Sh_objects_15 : decode b_Sh_objects 15 = .ok (.goto 4, 3) := by decide +kernel
theorem d_Sh_objects_18 : decode b_Sh_objects 18 = .ok (.iconst (-1), 1) := by decide +kernel
theorem d_Sh_objects_19 : decode b_Sh_objects 19 = .ok (.ireturn, 1) := by decide +kernel
set_option maxHeartbeats 4000000 in
set_option maxRecDepth 100000 in
theorem c_Sh_objects (l : Launch) (dC : Nat → ClassId) (dI : Nat → Nat → Nat) (ad : Nat → Nat) (cA : ClassId) (sz : Nat) (N : Nat) (a1 : Int32) (u : Mem) (r : Int32) (w : Mem) (h : f_Sh_objects N a1 u = some (r, w)) : CtI l y_Sh_objects (Cond.code y_Sh_objects b_Sh_objects 2 (some .int) :: lw_gd) 2 44 (dC, dI) cA [.ref (ad 0), .int a1] (wA ad cA) u sz (fun v w1 => v = r ∧ w1 = w) := by
  refine v_metI (own := R_Sh) [some (.ref (ad 0)), some (.int a1)] rfl (by decide) (Nat.le_of_ble_eq_true rfl) rfl rfl (fun v u h => rfl) ?_
  intro p e s m args below meth c A Q ret
  unfold f_Sh_objects at h
  refine v_iload_n d_Sh_objects_0 rfl rfl ?_
  obtain ⟨y1, u2, hc3, h⟩ := bd_inv h
  refine vc_Sh_Sh_isNode hc3 (Nat.le_of_ble_eq_true rfl) (Nat.le_of_ble_eq_true rfl) (Nat.le_of_ble_eq_true rfl) d_Sh_objects_1 rfl ?_
  refine v_if_eq 18 d_Sh_objects_4 (by decide) rfl (fun c7 => ?_) (fun c7 => ?_)
  · replace h := (if_pos c7).symm.trans h
    refine v_iconst (-1) d_Sh_objects_18 (by decide) rfl ?_
    obtain ⟨e1, e2⟩ := rt_inv h
    exact ret _ _ _ _ ⟨e1, e2⟩ d_Sh_objects_19
  · replace h := (if_neg c7).symm.trans h
    refine v_aload_n d_Sh_objects_7 rfl rfl ?_
    refine vg_Sh_heap d_Sh_objects_8 rfl ?_
    refine v_iload_n d_Sh_objects_11 rfl rfl ?_
    obtain ⟨y4, u5, hc6, h⟩ := bd_inv h
    refine vc_Sh_Hp_countOn hc6 (Nat.le_of_ble_eq_true rfl) (Nat.le_of_ble_eq_true rfl) (Nat.le_of_ble_eq_true rfl) d_Sh_objects_12 rfl ?_
    refine v_goto 19 d_Sh_objects_15 (by decide) ?_
    obtain ⟨e1, e2⟩ := rt_inv h
    exact ret _ _ _ _ ⟨e1, e2⟩ d_Sh_objects_19
theorem vc_La_Sh_objects {p : Program} {l : Launch} {e : Env} {fr rc rs rl : Nat} {s : State} {m : MethodId} {args : Array Value} {below : List Frame} {meth : Method} {c : Code} {cells slots : Nat} {Q : State → Prop} {A : Nat → Prop} {cc : ByteArray} {nL : Nat} {dC : Nat → ClassId} {dI : Nat → Nat → Nat} {cA : ClassId} {ad : Nat → Nat} {pc q : Nat} {lo : List (Option Value)} {rest : List Value} {u w : Mem} {r : Int32} {N : Nat} {b0 : Int32} (h : f_Sh_objects N b0 u = some (r, w)) (hfr : 2 + 1 ≤ fr) (hrl : 8 + (2 + 11) + 44 ≤ rl) (hrm : (rest.map fun v => v.category).sum ≤ 8) (hd : decode cc pc = .ok (.invokevirtual 65, 3)) (hq : pc + 3 = q) (k : VJ p l e fr rc rs rl s m args below meth c cells slots Q A cc nL R_La (dC, dI) cA (wA ad cA) q lo (.int r :: rest) w) : VJ p l e fr rc rs rl s m args below meth c cells slots Q A cc nL R_La (dC, dI) cA (wA ad cA) pc lo (.int b0 :: .ref (ad 0) :: rest) u :=
  v_callVI (As := [.int b0]) (rest := rest) (fun sz => c_Sh_objects l dC dI ad cA sz N b0 u r w h) tw_355 tw_356 tw_357 0 (wA_0 ad cA u) rfl rfl tw_358 tw_24 1 rfl (by decide +kernel) hfr hrl rfl hrm hd hq (fun v w1 hE => by obtain ⟨rfl, rfl⟩ := hE; exact k)
theorem d_Sh_entry_0 : decode b_Sh_entry 0 = .ok (.aload_n 0, 1) := by decide +kernel
theorem d_Sh_entry_1 : decode b_Sh_entry 1 = .ok (.getfield 16, 3) := by decide +kernel
theorem d_Sh_entry_4 : decode b_Sh_entry 4 = .ok (.iload_n 1, 1) := by decide +kernel
theorem d_Sh_entry_5 : decode b_Sh_entry 5 = .ok (.invokevirtual 70, 3) := by decide +kernel
theorem d_Sh_entry_8 : decode b_Sh_entry 8 = .ok (.istore_n 2, 1) := by decide +kernel
theorem d_Sh_entry_9 : decode b_Sh_entry 9 = .ok (.iload_n 2, 1) := by decide +kernel
theorem d_Sh_entry_10 : decode b_Sh_entry 10 = .ok (.iconst (-1), 1) := by decide +kernel
theorem d_Sh_entry_11 : decode b_Sh_entry 11 = .ok (.if_icmp .eq 14, 3) := by decide +kernel
theorem d_Sh_entry_14 : decode b_Sh_entry 14 = .ok (.aload_n 0, 1) := by decide +kernel
theorem d_Sh_entry_15 : decode b_Sh_entry 15 = .ok (.getfield 16, 3) := by decide +kernel
theorem d_Sh_entry_18 : decode b_Sh_entry 18 = .ok (.iload_n 2, 1) := by decide +kernel
theorem d_Sh_entry_19 : decode b_Sh_entry 19 = .ok (.invokevirtual 115, 3) := by decide +kernel
theorem d_Sh_entry_22 : decode b_Sh_entry 22 = .ok (.goto 4, 3) := by decide +kernel
theorem d_Sh_entry_25 : decode b_Sh_entry 25 = .ok (.iconst (-1), 1) := by decide +kernel
theorem d_Sh_entry_26 : decode b_Sh_entry 26 = .ok (.ireturn, 1) := by decide +kernel
set_option maxHeartbeats 4000000 in
set_option maxRecDepth 100000 in
theorem c_Sh_entry (l : Launch) (dC : Nat → ClassId) (dI : Nat → Nat → Nat) (ad : Nat → Nat) (cA : ClassId) (sz : Nat) (N : Nat) (a1 : Int32) (u : Mem) (r : Int32) (w : Mem) (h : f_Sh_entry N a1 u = some (r, w)) : CtI l y_Sh_entry (Cond.code y_Sh_entry b_Sh_entry 3 (some .int) :: lw_gd) 1 22 (dC, dI) cA [.ref (ad 0), .int a1] (wA ad cA) u sz (fun v w1 => v = r ∧ w1 = w) := by
  refine v_metI (own := R_Sh) [some (.ref (ad 0)), some (.int a1), none] rfl (by decide) (Nat.le_of_ble_eq_true rfl) rfl rfl (fun v u h => rfl) ?_
  intro p e s m args below meth c A Q ret
  unfold f_Sh_entry at h
  refine v_aload_n d_Sh_entry_0 rfl rfl ?_
  refine vg_Sh_heap d_Sh_entry_1 rfl ?_
  refine v_iload_n d_Sh_entry_4 rfl rfl ?_
  obtain ⟨y1, u2, hc3, h⟩ := bd_inv h
  refine vc_Sh_Hp_slotOf hc3 (Nat.le_of_ble_eq_true rfl) (Nat.le_of_ble_eq_true rfl) (Nat.le_of_ble_eq_true rfl) d_Sh_entry_5 rfl ?_
  refine v_istore_n (lo' := [_, _, _]) d_Sh_entry_8 rfl (by decide) rfl ?_
  refine v_iload_n d_Sh_entry_9 rfl rfl ?_
  refine v_iconst (-1) d_Sh_entry_10 (by decide) rfl ?_
  refine v_icmp_eq 25 d_Sh_entry_11 (by decide) rfl (fun c7 => ?_) (fun c7 => ?_)
  · replace h := (if_pos c7).symm.trans h
    refine v_iconst (-1) d_Sh_entry_25 (by decide) rfl ?_
    obtain ⟨e1, e2⟩ := rt_inv h
    exact ret _ _ _ _ ⟨e1, e2⟩ d_Sh_entry_26
  · replace h := (if_neg c7).symm.trans h
    refine v_aload_n d_Sh_entry_14 rfl rfl ?_
    refine vg_Sh_heap d_Sh_entry_15 rfl ?_
    refine v_iload_n d_Sh_entry_18 rfl rfl ?_
    obtain ⟨y4, u5, hc6, h⟩ := bd_inv h
    refine vc_Sh_Hp_entryAt hc6 (Nat.le_of_ble_eq_true rfl) (Nat.le_of_ble_eq_true rfl) (Nat.le_of_ble_eq_true rfl) d_Sh_entry_19 rfl ?_
    refine v_goto 26 d_Sh_entry_22 (by decide) ?_
    obtain ⟨e1, e2⟩ := rt_inv h
    exact ret _ _ _ _ ⟨e1, e2⟩ d_Sh_entry_26
theorem vc_La_Sh_entry {p : Program} {l : Launch} {e : Env} {fr rc rs rl : Nat} {s : State} {m : MethodId} {args : Array Value} {below : List Frame} {meth : Method} {c : Code} {cells slots : Nat} {Q : State → Prop} {A : Nat → Prop} {cc : ByteArray} {nL : Nat} {dC : Nat → ClassId} {dI : Nat → Nat → Nat} {cA : ClassId} {ad : Nat → Nat} {pc q : Nat} {lo : List (Option Value)} {rest : List Value} {u w : Mem} {r : Int32} {N : Nat} {b0 : Int32} (h : f_Sh_entry N b0 u = some (r, w)) (hfr : 1 + 1 ≤ fr) (hrl : 8 + (3 + 11) + 22 ≤ rl) (hrm : (rest.map fun v => v.category).sum ≤ 8) (hd : decode cc pc = .ok (.invokevirtual 69, 3)) (hq : pc + 3 = q) (k : VJ p l e fr rc rs rl s m args below meth c cells slots Q A cc nL R_La (dC, dI) cA (wA ad cA) q lo (.int r :: rest) w) : VJ p l e fr rc rs rl s m args below meth c cells slots Q A cc nL R_La (dC, dI) cA (wA ad cA) pc lo (.int b0 :: .ref (ad 0) :: rest) u :=
  v_callVI (As := [.int b0]) (rest := rest) (fun sz => c_Sh_entry l dC dI ad cA sz N b0 u r w h) tw_359 tw_360 tw_361 0 (wA_0 ad cA u) rfl rfl tw_362 tw_24 1 rfl (by decide +kernel) hfr hrl rfl hrm hd hq (fun v w1 hE => by obtain ⟨rfl, rfl⟩ := hE; exact k)
theorem d_Sh_exit_0 : decode b_Sh_exit 0 = .ok (.aload_n 0, 1) := by decide +kernel
theorem d_Sh_exit_1 : decode b_Sh_exit 1 = .ok (.getfield 23, 3) := by decide +kernel
theorem d_Sh_exit_4 : decode b_Sh_exit 4 = .ok (.iload_n 1, 1) := by decide +kernel
theorem d_Sh_exit_5 : decode b_Sh_exit 5 = .ok (.iload_n 2, 1) := by decide +kernel
theorem d_Sh_exit_6 : decode b_Sh_exit 6 = .ok (.invokevirtual 139, 3) := by decide +kernel
theorem d_Sh_exit_9 : decode b_Sh_exit 9 = .ok (.istore_n 3, 1) := by decide +kernel
theorem d_Sh_exit_10 : decode b_Sh_exit 10 = .ok (.iload_n 3, 1) := by decide +kernel
theorem d_Sh_exit_11 : decode b_Sh_exit 11 = .ok (.iconst (-1), 1) := by decide +kernel
theorem d_Sh_exit_12 : decode b_Sh_exit 12 = .ok (.if_icmp .eq 14, 3) := by decide +kernel
theorem d_Sh_exit_15 : decode b_Sh_exit 15 = .ok (.aload_n 0, 1) := by decide +kernel
theorem d_Sh_exit_16 : decode b_Sh_exit 16 = .ok (.getfield 23, 3) := by decide +kernel
theorem d_Sh_exit_19 : decode b_Sh_exit 19 = .ok (.iload_n 3, 1) := by decide +kernel
theorem d_Sh_exit_20 : decode b_Sh_exit 20 = .ok (.invokevirtual 142, 3) := by decide +kernel
theorem d_Sh_exit_23 : decode b_Sh_exit 23 = .ok (.goto 4, 3) := by decide +kernel
theorem d_Sh_exit_26 : decode b_Sh_exit 26 = .ok (.iconst (-1), 1) := by decide +kernel
theorem d_Sh_exit_27 : decode b_Sh_exit 27 = .ok (.ireturn, 1) := by decide +kernel
set_option maxHeartbeats 4000000 in
set_option maxRecDepth 100000 in
theorem c_Sh_exit (l : Launch) (dC : Nat → ClassId) (dI : Nat → Nat → Nat) (ad : Nat → Nat) (cA : ClassId) (sz : Nat) (N : Nat) (a1 a2 : Int32) (u : Mem) (r : Int32) (w : Mem) (h : f_Sh_exit N a1 a2 u = some (r, w)) : CtI l y_Sh_exit (Cond.code y_Sh_exit b_Sh_exit 4 (some .int) :: lw_gd) 1 23 (dC, dI) cA [.ref (ad 0), .int a1, .int a2] (wA ad cA) u sz (fun v w1 => v = r ∧ w1 = w) := by
  refine v_metI (own := R_Sh) [some (.ref (ad 0)), some (.int a1), some (.int a2), none] rfl (by decide) (Nat.le_of_ble_eq_true rfl) rfl rfl (fun v u h => rfl) ?_
  intro p e s m args below meth c A Q ret
  unfold f_Sh_exit at h
  refine v_aload_n d_Sh_exit_0 rfl rfl ?_
  refine vg_Sh_exits d_Sh_exit_1 rfl ?_
  refine v_iload_n d_Sh_exit_4 rfl rfl ?_
  refine v_iload_n d_Sh_exit_5 rfl rfl ?_
  obtain ⟨y1, u2, hc3, h⟩ := bd_inv h
  refine vc_Sh_Xt_rowOf hc3 (Nat.le_of_ble_eq_true rfl) (Nat.le_of_ble_eq_true rfl) (Nat.le_of_ble_eq_true rfl) d_Sh_exit_6 rfl ?_
  refine v_istore_n (lo' := [_, _, _, _]) d_Sh_exit_9 rfl (by decide) rfl ?_
  refine v_iload_n d_Sh_exit_10 rfl rfl ?_
  refine v_iconst (-1) d_Sh_exit_11 (by decide) rfl ?_
  refine v_icmp_eq 26 d_Sh_exit_12 (by decide) rfl (fun c7 => ?_) (fun c7 => ?_)
  · replace h := (if_pos c7).symm.trans h
    refine v_iconst (-1) d_Sh_exit_26 (by decide) rfl ?_
    obtain ⟨e1, e2⟩ := rt_inv h
    exact ret _ _ _ _ ⟨e1, e2⟩ d_Sh_exit_27
  · replace h := (if_neg c7).symm.trans h
    refine v_aload_n d_Sh_exit_15 rfl rfl ?_
    refine vg_Sh_exits d_Sh_exit_16 rfl ?_
    refine v_iload_n d_Sh_exit_19 rfl rfl ?_
    obtain ⟨y4, u5, hc6, h⟩ := bd_inv h
    refine vc_Sh_Xt_stampAt hc6 (Nat.le_of_ble_eq_true rfl) (Nat.le_of_ble_eq_true rfl) (Nat.le_of_ble_eq_true rfl) d_Sh_exit_20 rfl ?_
    refine v_goto 27 d_Sh_exit_23 (by decide) ?_
    obtain ⟨e1, e2⟩ := rt_inv h
    exact ret _ _ _ _ ⟨e1, e2⟩ d_Sh_exit_27
theorem vc_La_Sh_exit {p : Program} {l : Launch} {e : Env} {fr rc rs rl : Nat} {s : State} {m : MethodId} {args : Array Value} {below : List Frame} {meth : Method} {c : Code} {cells slots : Nat} {Q : State → Prop} {A : Nat → Prop} {cc : ByteArray} {nL : Nat} {dC : Nat → ClassId} {dI : Nat → Nat → Nat} {cA : ClassId} {ad : Nat → Nat} {pc q : Nat} {lo : List (Option Value)} {rest : List Value} {u w : Mem} {r : Int32} {N : Nat} {b0 b1 : Int32} (h : f_Sh_exit N b0 b1 u = some (r, w)) (hfr : 1 + 1 ≤ fr) (hrl : 8 + (4 + 11) + 23 ≤ rl) (hrm : (rest.map fun v => v.category).sum ≤ 8) (hd : decode cc pc = .ok (.invokevirtual 73, 3)) (hq : pc + 3 = q) (k : VJ p l e fr rc rs rl s m args below meth c cells slots Q A cc nL R_La (dC, dI) cA (wA ad cA) q lo (.int r :: rest) w) : VJ p l e fr rc rs rl s m args below meth c cells slots Q A cc nL R_La (dC, dI) cA (wA ad cA) pc lo (.int b1 :: .int b0 :: .ref (ad 0) :: rest) u :=
  v_callVI (As := [.int b0, .int b1]) (rest := rest) (fun sz => c_Sh_exit l dC dI ad cA sz N b0 b1 u r w h) tw_363 tw_364 tw_365 0 (wA_0 ad cA u) rfl rfl tw_366 tw_24 2 rfl (by decide +kernel) hfr hrl rfl hrm hd hq (fun v w1 hE => by obtain ⟨rfl, rfl⟩ := hE; exact k)
theorem d_Sh_messages_0 : decode b_Sh_messages 0 = .ok (.aload_n 0, 1) := by decide +kernel
theorem d_Sh_messages_1 : decode b_Sh_messages 1 = .ok (.getfield 30, 3) := by decide +kernel
theorem d_Sh_messages_4 : decode b_Sh_messages 4 = .ok (.invokevirtual 83, 3) := by decide +kernel
theorem d_Sh_messages_7 : decode b_Sh_messages 7 = .ok (.ireturn, 1) := by decide +kernel
set_option maxHeartbeats 4000000 in
set_option maxRecDepth 100000 in
theorem c_Sh_messages (l : Launch) (dC : Nat → ClassId) (dI : Nat → Nat → Nat) (ad : Nat → Nat) (cA : ClassId) (sz : Nat) (N : Nat) (u : Mem) (r : Int32) (w : Mem) (h : f_Sh_messages N u = some (r, w)) : CtI l y_Sh_messages (Cond.code y_Sh_messages b_Sh_messages 1 (some .int) :: lw_gd) 1 20 (dC, dI) cA [.ref (ad 0)] (wA ad cA) u sz (fun v w1 => v = r ∧ w1 = w) := by
  refine v_metI (own := R_Sh) [some (.ref (ad 0))] rfl (by decide) (Nat.le_of_ble_eq_true rfl) rfl rfl (fun v u h => rfl) ?_
  intro p e s m args below meth c A Q ret
  unfold f_Sh_messages at h
  refine v_aload_n d_Sh_messages_0 rfl rfl ?_
  refine vg_Sh_queue d_Sh_messages_1 rfl ?_
  obtain ⟨y1, u2, hc3, h⟩ := bd_inv h
  refine vc_Sh_Qu_size hc3 (Nat.le_of_ble_eq_true rfl) (Nat.le_of_ble_eq_true rfl) (Nat.le_of_ble_eq_true rfl) d_Sh_messages_4 rfl ?_
  obtain ⟨e1, e2⟩ := rt_inv h
  exact ret _ _ _ _ ⟨e1, e2⟩ d_Sh_messages_7
theorem vc_La_Sh_messages {p : Program} {l : Launch} {e : Env} {fr rc rs rl : Nat} {s : State} {m : MethodId} {args : Array Value} {below : List Frame} {meth : Method} {c : Code} {cells slots : Nat} {Q : State → Prop} {A : Nat → Prop} {cc : ByteArray} {nL : Nat} {dC : Nat → ClassId} {dI : Nat → Nat → Nat} {cA : ClassId} {ad : Nat → Nat} {pc q : Nat} {lo : List (Option Value)} {rest : List Value} {u w : Mem} {r : Int32} {N : Nat} (h : f_Sh_messages N u = some (r, w)) (hfr : 1 + 1 ≤ fr) (hrl : 8 + (1 + 11) + 20 ≤ rl) (hrm : (rest.map fun v => v.category).sum ≤ 8) (hd : decode cc pc = .ok (.invokevirtual 77, 3)) (hq : pc + 3 = q) (k : VJ p l e fr rc rs rl s m args below meth c cells slots Q A cc nL R_La (dC, dI) cA (wA ad cA) q lo (.int r :: rest) w) : VJ p l e fr rc rs rl s m args below meth c cells slots Q A cc nL R_La (dC, dI) cA (wA ad cA) pc lo (.ref (ad 0) :: rest) u :=
  v_callVI (As := []) (rest := rest) (fun sz => c_Sh_messages l dC dI ad cA sz N u r w h) tw_368 tw_369 tw_370 0 (wA_0 ad cA u) rfl rfl tw_371 tw_24 0 rfl (by decide +kernel) hfr hrl rfl hrm hd hq (fun v w1 hE => by obtain ⟨rfl, rfl⟩ := hE; exact k)
theorem d_Sh_message_0 : decode b_Sh_message 0 = .ok (.aload_n 0, 1) := by decide +kernel
theorem d_Sh_message_1 : decode b_Sh_message 1 = .ok (.getfield 30, 3) := by decide +kernel
theorem d_Sh_message_4 : decode b_Sh_message 4 = .ok (.iload_n 1, 1) := by decide +kernel
theorem d_Sh_message_5 : decode b_Sh_message 5 = .ok (.invokevirtual 106, 3) := by decide +kernel
theorem d_Sh_message_8 : decode b_Sh_message 8 = .ok (.ifCond .eq 24, 3) := by decide +kernel
theorem d_Sh_message_11 : decode b_Sh_message 11 = .ok (.iload_n 2, 1) := by decide +kernel
theorem d_Sh_message_12 : decode b_Sh_message 12 = .ok (.ifCond .lt 20, 3) := by decide +kernel
theorem d_Sh_message_15 : decode b_Sh_message 15 = .ok (.iload_n 2, 1) := by decide +kernel
theorem d_Sh_message_16 : decode b_Sh_message 16 = .ok (.iconst 4, 1) := by decide +kernel
theorem d_Sh_message_17 : decode b_Sh_message 17 = .ok (.if_icmp .ge 15, 3) := by decide +kernel
theorem d_Sh_message_20 : decode b_Sh_message 20 = .ok (.aload_n 0, 1) := by decide +kernel
theorem d_Sh_message_21 : decode b_Sh_message 21 = .ok (.getfield 30, 3) := by decide +kernel
theorem d_Sh_message_24 : decode b_Sh_message 24 = .ok (.iload_n 1, 1) := by decide +kernel
theorem d_Sh_message_25 : decode b_Sh_message 25 = .ok (.iload_n 2, 1) := by decide +kernel
theorem d_Sh_message_26 : decode b_Sh_message 26 = .ok (.invokevirtual 109, 3) := by decide +kernel
theorem d_Sh_message_29 : decode b_Sh_message 29 = .ok (.goto 4, 3) := by decide +kernel
theorem d_Sh_message_32 : decode b_Sh_message 32 = .ok (.iconst (-1), 1) := by decide +kernel
theorem d_Sh_message_33 : decode b_Sh_message 33 = .ok (.ireturn, 1) := by decide +kernel
set_option maxHeartbeats 4000000 in
set_option maxRecDepth 100000 in
theorem c_Sh_message (l : Launch) (dC : Nat → ClassId) (dI : Nat → Nat → Nat) (ad : Nat → Nat) (cA : ClassId) (sz : Nat) (N : Nat) (a1 a2 : Int32) (u : Mem) (r : Int32) (w : Mem) (h : f_Sh_message N a1 a2 u = some (r, w)) : CtI l y_Sh_message (Cond.code y_Sh_message b_Sh_message 3 (some .int) :: lw_gd) 1 22 (dC, dI) cA [.ref (ad 0), .int a1, .int a2] (wA ad cA) u sz (fun v w1 => v = r ∧ w1 = w) := by
  refine v_metI (own := R_Sh) [some (.ref (ad 0)), some (.int a1), some (.int a2)] rfl (by decide) (Nat.le_of_ble_eq_true rfl) rfl rfl (fun v u h => rfl) ?_
  intro p e s m args below meth c A Q ret
  unfold f_Sh_message at h
  refine v_aload_n d_Sh_message_0 rfl rfl ?_
  refine vg_Sh_queue d_Sh_message_1 rfl ?_
  refine v_iload_n d_Sh_message_4 rfl rfl ?_
  obtain ⟨y1, u2, hc3, h⟩ := bd_inv h
  refine vc_Sh_Qu_has hc3 (Nat.le_of_ble_eq_true rfl) (Nat.le_of_ble_eq_true rfl) (Nat.le_of_ble_eq_true rfl) d_Sh_message_5 rfl ?_
  refine v_if_eq 32 d_Sh_message_8 (by decide) rfl (fun c9 => ?_) (fun c9 => ?_)
  · replace h := (if_pos c9).symm.trans h
    refine v_iconst (-1) d_Sh_message_32 (by decide) rfl ?_
    obtain ⟨e1, e2⟩ := rt_inv h
    exact ret _ _ _ _ ⟨e1, e2⟩ d_Sh_message_33
  · replace h := (if_neg c9).symm.trans h
    refine v_iload_n d_Sh_message_11 rfl rfl ?_
    refine v_if_lt 32 d_Sh_message_12 (by decide) rfl (fun c8 => ?_) (fun c8 => ?_)
    · replace h := (if_pos c8).symm.trans h
      refine v_iconst (-1) d_Sh_message_32 (by decide) rfl ?_
      obtain ⟨e1, e2⟩ := rt_inv h
      exact ret _ _ _ _ ⟨e1, e2⟩ d_Sh_message_33
    · replace h := (if_neg c8).symm.trans h
      refine v_iload_n d_Sh_message_15 rfl rfl ?_
      refine v_iconst 4 d_Sh_message_16 (by decide) rfl ?_
      refine v_icmp_ge 32 d_Sh_message_17 (by decide) rfl (fun c7 => ?_) (fun c7 => ?_)
      · replace h := (if_pos c7).symm.trans h
        refine v_iconst (-1) d_Sh_message_32 (by decide) rfl ?_
        obtain ⟨e1, e2⟩ := rt_inv h
        exact ret _ _ _ _ ⟨e1, e2⟩ d_Sh_message_33
      · replace h := (if_neg c7).symm.trans h
        refine v_aload_n d_Sh_message_20 rfl rfl ?_
        refine vg_Sh_queue d_Sh_message_21 rfl ?_
        refine v_iload_n d_Sh_message_24 rfl rfl ?_
        refine v_iload_n d_Sh_message_25 rfl rfl ?_
        obtain ⟨y4, u5, hc6, h⟩ := bd_inv h
        refine vc_Sh_Qu_part hc6 (Nat.le_of_ble_eq_true rfl) (Nat.le_of_ble_eq_true rfl) (Nat.le_of_ble_eq_true rfl) d_Sh_message_26 rfl ?_
        refine v_goto 33 d_Sh_message_29 (by decide) ?_
        obtain ⟨e1, e2⟩ := rt_inv h
        exact ret _ _ _ _ ⟨e1, e2⟩ d_Sh_message_33
theorem vc_La_Sh_message {p : Program} {l : Launch} {e : Env} {fr rc rs rl : Nat} {s : State} {m : MethodId} {args : Array Value} {below : List Frame} {meth : Method} {c : Code} {cells slots : Nat} {Q : State → Prop} {A : Nat → Prop} {cc : ByteArray} {nL : Nat} {dC : Nat → ClassId} {dI : Nat → Nat → Nat} {cA : ClassId} {ad : Nat → Nat} {pc q : Nat} {lo : List (Option Value)} {rest : List Value} {u w : Mem} {r : Int32} {N : Nat} {b0 b1 : Int32} (h : f_Sh_message N b0 b1 u = some (r, w)) (hfr : 1 + 1 ≤ fr) (hrl : 8 + (3 + 11) + 22 ≤ rl) (hrm : (rest.map fun v => v.category).sum ≤ 8) (hd : decode cc pc = .ok (.invokevirtual 81, 3)) (hq : pc + 3 = q) (k : VJ p l e fr rc rs rl s m args below meth c cells slots Q A cc nL R_La (dC, dI) cA (wA ad cA) q lo (.int r :: rest) w) : VJ p l e fr rc rs rl s m args below meth c cells slots Q A cc nL R_La (dC, dI) cA (wA ad cA) pc lo (.int b1 :: .int b0 :: .ref (ad 0) :: rest) u :=
  v_callVI (As := [.int b0, .int b1]) (rest := rest) (fun sz => c_Sh_message l dC dI ad cA sz N b0 b1 u r w h) tw_372 tw_373 tw_374 0 (wA_0 ad cA u) rfl rfl tw_375 tw_24 2 rfl (by decide +kernel) hfr hrl rfl hrm hd hq (fun v w1 hE => by obtain ⟨rfl, rfl⟩ := hE; exact k)
theorem d_Sh_redo_0 : decode b_Sh_redo 0 = .ok (.iload_n 1, 1) := by decide +kernel
theorem d_Sh_redo_1 : decode b_Sh_redo 1 = .ok (.invokestatic 48, 3) := by decide +kernel
theorem d_Sh_redo_4 : decode b_Sh_redo 4 = .ok (.ifCond .eq 11, 3) := by decide +kernel
theorem d_Sh_redo_7 : decode b_Sh_redo 7 = .ok (.aload_n 0, 1) := by decide +kernel
theorem d_Sh_redo_8 : decode b_Sh_redo 8 = .ok (.iload_n 1, 1) := by decide +kernel
theorem d_Sh_redo_9 : decode b_Sh_redo 9 = .ok (.invokevirtual 122, 3) := by decide +kernel
theorem d_Sh_redo_12 : decode b_Sh_redo 12 = .ok (.goto 4, 3) := by decide +kernel
theorem d_Sh_redo_15 : decode b_Sh_redo 15 = .ok (.iconst (-1), 1) := by decide +kernel
theorem d_Sh_redo_16 : decode b_Sh_redo 16 = .ok (.ireturn, 1) := by decide +kernel
set_option maxHeartbeats 4000000 in
set_option maxRecDepth 100000 in
theorem c_Sh_redo (l : Launch) (dC : Nat → ClassId) (dI : Nat → Nat → Nat) (ad : Nat → Nat) (cA : ClassId) (sz : Nat) (N : Nat) (a1 : Int32) (u : Mem) (r : Int32) (w : Mem) (h : f_Sh_redo N a1 u = some (r, w)) : CtI l y_Sh_redo (Cond.code y_Sh_redo b_Sh_redo 2 (some .int) :: lw_gd) 3 66 (dC, dI) cA [.ref (ad 0), .int a1] (wA ad cA) u sz (fun v w1 => v = r ∧ w1 = w) := by
  refine v_metI (own := R_Sh) [some (.ref (ad 0)), some (.int a1)] rfl (by decide) (Nat.le_of_ble_eq_true rfl) rfl rfl (fun v u h => rfl) ?_
  intro p e s m args below meth c A Q ret
  unfold f_Sh_redo at h
  refine v_iload_n d_Sh_redo_0 rfl rfl ?_
  obtain ⟨y1, u2, hc3, h⟩ := bd_inv h
  refine vc_Sh_Sh_isNode hc3 (Nat.le_of_ble_eq_true rfl) (Nat.le_of_ble_eq_true rfl) (Nat.le_of_ble_eq_true rfl) d_Sh_redo_1 rfl ?_
  refine v_if_eq 15 d_Sh_redo_4 (by decide) rfl (fun c7 => ?_) (fun c7 => ?_)
  · replace h := (if_pos c7).symm.trans h
    refine v_iconst (-1) d_Sh_redo_15 (by decide) rfl ?_
    obtain ⟨e1, e2⟩ := rt_inv h
    exact ret _ _ _ _ ⟨e1, e2⟩ d_Sh_redo_16
  · replace h := (if_neg c7).symm.trans h
    refine v_aload_n d_Sh_redo_7 rfl rfl ?_
    refine v_iload_n d_Sh_redo_8 rfl rfl ?_
    obtain ⟨y4, u5, hc6, h⟩ := bd_inv h
    refine vc_Sh_Sh_redoOf hc6 (Nat.le_of_ble_eq_true rfl) (Nat.le_of_ble_eq_true rfl) (Nat.le_of_ble_eq_true rfl) d_Sh_redo_9 rfl ?_
    refine v_goto 16 d_Sh_redo_12 (by decide) ?_
    obtain ⟨e1, e2⟩ := rt_inv h
    exact ret _ _ _ _ ⟨e1, e2⟩ d_Sh_redo_16
theorem vc_La_Sh_redo {p : Program} {l : Launch} {e : Env} {fr rc rs rl : Nat} {s : State} {m : MethodId} {args : Array Value} {below : List Frame} {meth : Method} {c : Code} {cells slots : Nat} {Q : State → Prop} {A : Nat → Prop} {cc : ByteArray} {nL : Nat} {dC : Nat → ClassId} {dI : Nat → Nat → Nat} {cA : ClassId} {ad : Nat → Nat} {pc q : Nat} {lo : List (Option Value)} {rest : List Value} {u w : Mem} {r : Int32} {N : Nat} {b0 : Int32} (h : f_Sh_redo N b0 u = some (r, w)) (hfr : 3 + 1 ≤ fr) (hrl : 8 + (2 + 11) + 66 ≤ rl) (hrm : (rest.map fun v => v.category).sum ≤ 8) (hd : decode cc pc = .ok (.invokevirtual 85, 3)) (hq : pc + 3 = q) (k : VJ p l e fr rc rs rl s m args below meth c cells slots Q A cc nL R_La (dC, dI) cA (wA ad cA) q lo (.int r :: rest) w) : VJ p l e fr rc rs rl s m args below meth c cells slots Q A cc nL R_La (dC, dI) cA (wA ad cA) pc lo (.int b0 :: .ref (ad 0) :: rest) u :=
  v_callVI (As := [.int b0]) (rest := rest) (fun sz => c_Sh_redo l dC dI ad cA sz N b0 u r w h) tw_376 tw_377 tw_378 0 (wA_0 ad cA u) rfl rfl tw_379 tw_24 1 rfl (by decide +kernel) hfr hrl rfl hrm hd hq (fun v w1 hE => by obtain ⟨rfl, rfl⟩ := hE; exact k)
