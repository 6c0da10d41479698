/-! Contracts. -/
theorem d_Md_owner_0 : decode b_Md_owner 0 = .ok (.aload_n 0, 1) := by decide +kernel
theorem d_Md_owner_1 : decode b_Md_owner 1 = .ok (.iload_n 1, 1) := by decide +kernel
theorem d_Md_owner_2 : decode b_Md_owner 2 = .ok (.invokevirtual 46, 3) := by decide +kernel
theorem d_Md_owner_5 : decode b_Md_owner 5 = .ok (.ifCond .eq 12, 3) := by decide +kernel
theorem d_Md_owner_8 : decode b_Md_owner 8 = .ok (.aload_n 0, 1) := by decide +kernel
theorem d_Md_owner_9 : decode b_Md_owner 9 = .ok (.getfield 7, 3) := by decide +kernel
theorem d_Md_owner_12 : decode b_Md_owner 12 = .ok (.iload_n 1, 1) := by decide +kernel
theorem d_Md_owner_13 : decode b_Md_owner 13 = .ok (.iaload, 1) := by decide +kernel
theorem d_Md_owner_14 : decode b_Md_owner 14 = .ok (.goto 4, 3) := by decide +kernel
theorem d_Md_owner_17 : decode b_Md_owner 17 = .ok (.iconst (-1), 1) := by decide +kernel
theorem d_Md_owner_18 : decode b_Md_owner 18 = .ok (.ireturn, 1) := by decide +kernel
set_option maxHeartbeats 4000000 in
set_option maxRecDepth 100000 in
theorem c_Md_owner (l : Launch) (dC : Nat → ClassId) (dI : Nat → Nat → Nat) (ad : Nat → Nat) (cA : ClassId) (sz : Nat) (N : Nat) (a1 : Int32) (u : Mem) (r : Int32) (w : Mem) (h : f_Md_owner N a1 u = some (r, w)) : CtI l y_Md_owner (Cond.code y_Md_owner b_Md_owner 2 (some .int) :: lw_gd) 2 43 (dC, dI) cA [.ref (ad 15), .int a1] (wA ad cA) u sz (fun v w1 => v = r ∧ w1 = w) := by
  refine v_metI (own := R_Md) [some (.ref (ad 15)), some (.int a1)] rfl (by decide) (Nat.le_of_ble_eq_true rfl) rfl rfl (fun v u h => rfl) ?_
  intro p e s m args below meth c A Q ret
  unfold f_Md_owner at h
  refine v_aload_n d_Md_owner_0 rfl rfl ?_
  refine v_iload_n d_Md_owner_1 rfl rfl ?_
  obtain ⟨y1, u2, hc3, h⟩ := bd_inv h
  refine vc_Md_Md_there hc3 (Nat.le_of_ble_eq_true rfl) (Nat.le_of_ble_eq_true rfl) (Nat.le_of_ble_eq_true rfl) d_Md_owner_2 rfl ?_
  refine v_if_eq 17 d_Md_owner_5 (by decide) rfl (fun c5 => ?_) (fun c5 => ?_)
  · replace h := (if_pos c5).symm.trans h
    refine v_iconst (-1) d_Md_owner_17 (by decide) rfl ?_
    obtain ⟨e1, e2⟩ := rt_inv h
    exact ret _ _ _ _ ⟨e1, e2⟩ d_Md_owner_18
  · replace h := (if_neg c5).symm.trans h
    refine v_aload_n d_Md_owner_8 rfl rfl ?_
    refine vg_Md_ownerOf d_Md_owner_9 rfl ?_
    refine v_iload_n d_Md_owner_12 rfl rfl ?_
    obtain ⟨g4, h⟩ := gd_inv h
    refine v_ald 16 (wA_16 ad cA _) d_Md_owner_13 g4 rfl ?_
    refine v_goto 18 d_Md_owner_14 (by decide) ?_
    obtain ⟨e1, e2⟩ := rt_inv h
    exact ret _ _ _ _ ⟨e1, e2⟩ d_Md_owner_18
theorem vc_La_Md_owner {p : Program} {l : Launch} {e : Env} {fr rc rs rl : Nat} {s : State} {m : MethodId} {args : Array Value} {below : List Frame} {meth : Method} {c : Code} {cells slots : Nat} {Q : State → Prop} {A : Nat → Prop} {cc : ByteArray} {nL : Nat} {dC : Nat → ClassId} {dI : Nat → Nat → Nat} {cA : ClassId} {ad : Nat → Nat} {pc q : Nat} {lo : List (Option Value)} {rest : List Value} {u w : Mem} {r : Int32} {N : Nat} {b0 : Int32} (h : f_Md_owner N b0 u = some (r, w)) (hfr : 2 + 1 ≤ fr) (hrl : 8 + (2 + 11) + 43 ≤ rl) (hrm : (rest.map fun v => v.category).sum ≤ 8) (hd : decode cc pc = .ok (.invokevirtual 64, 3)) (hq : pc + 3 = q) (k : VJ p l e fr rc rs rl s m args below meth c cells slots Q A cc nL R_La (dC, dI) cA (wA ad cA) q lo (.int r :: rest) w) : VJ p l e fr rc rs rl s m args below meth c cells slots Q A cc nL R_La (dC, dI) cA (wA ad cA) pc lo (.int b0 :: .ref (ad 15) :: rest) u :=
  v_callVI (As := [.int b0]) (rest := rest) (fun sz => c_Md_owner l dC dI ad cA sz N b0 u r w h) tw_518 tw_519 tw_520 15 (wA_15 ad cA u) rfl rfl tw_521 tw_28 1 rfl (by decide +kernel) hfr hrl rfl hrm hd hq (fun v w1 hE => by obtain ⟨rfl, rfl⟩ := hE; exact k)
theorem d_Md_entry_0 : decode b_Md_entry 0 = .ok (.aload_n 0, 1) := by decide +kernel
theorem d_Md_entry_1 : decode b_Md_entry 1 = .ok (.iload_n 1, 1) := by decide +kernel
theorem d_Md_entry_2 : decode b_Md_entry 2 = .ok (.invokevirtual 46, 3) := by decide +kernel
theorem d_Md_entry_5 : decode b_Md_entry 5 = .ok (.ifCond .eq 12, 3) := by decide +kernel
theorem d_Md_entry_8 : decode b_Md_entry 8 = .ok (.aload_n 0, 1) := by decide +kernel
theorem d_Md_entry_9 : decode b_Md_entry 9 = .ok (.getfield 13, 3) := by decide +kernel
theorem d_Md_entry_12 : decode b_Md_entry 12 = .ok (.iload_n 1, 1) := by decide +kernel
theorem d_Md_entry_13 : decode b_Md_entry 13 = .ok (.iaload, 1) := by decide +kernel
theorem d_Md_entry_14 : decode b_Md_entry 14 = .ok (.goto 4, 3) := by decide +kernel
theorem d_Md_entry_17 : decode b_Md_entry 17 = .ok (.iconst (-1), 1) := by decide +kernel
theorem d_Md_entry_18 : decode b_Md_entry 18 = .ok (.ireturn, 1) := by decide +kernel
set_option maxHeartbeats 4000000 in
set_option maxRecDepth 100000 in
theorem c_Md_entry (l : Launch) (dC : Nat → ClassId) (dI : Nat → Nat → Nat) (ad : Nat → Nat) (cA : ClassId) (sz : Nat) (N : Nat) (a1 : Int32) (u : Mem) (r : Int32) (w : Mem) (h : f_Md_entry N a1 u = some (r, w)) : CtI l y_Md_entry (Cond.code y_Md_entry b_Md_entry 2 (some .int) :: lw_gd) 2 43 (dC, dI) cA [.ref (ad 15), .int a1] (wA ad cA) u sz (fun v w1 => v = r ∧ w1 = w) := by
  refine v_metI (own := R_Md) [some (.ref (ad 15)), some (.int a1)] rfl (by decide) (Nat.le_of_ble_eq_true rfl) rfl rfl (fun v u h => rfl) ?_
  intro p e s m args below meth c A Q ret
  unfold f_Md_entry at h
  refine v_aload_n d_Md_entry_0 rfl rfl ?_
  refine v_iload_n d_Md_entry_1 rfl rfl ?_
  obtain ⟨y1, u2, hc3, h⟩ := bd_inv h
  refine vc_Md_Md_there hc3 (Nat.le_of_ble_eq_true rfl) (Nat.le_of_ble_eq_true rfl) (Nat.le_of_ble_eq_true rfl) d_Md_entry_2 rfl ?_
  refine v_if_eq 17 d_Md_entry_5 (by decide) rfl (fun c5 => ?_) (fun c5 => ?_)
  · replace h := (if_pos c5).symm.trans h
    refine v_iconst (-1) d_Md_entry_17 (by decide) rfl ?_
    obtain ⟨e1, e2⟩ := rt_inv h
    exact ret _ _ _ _ ⟨e1, e2⟩ d_Md_entry_18
  · replace h := (if_neg c5).symm.trans h
    refine v_aload_n d_Md_entry_8 rfl rfl ?_
    refine vg_Md_entryOf d_Md_entry_9 rfl ?_
    refine v_iload_n d_Md_entry_12 rfl rfl ?_
    obtain ⟨g4, h⟩ := gd_inv h
    refine v_ald 17 (wA_17 ad cA _) d_Md_entry_13 g4 rfl ?_
    refine v_goto 18 d_Md_entry_14 (by decide) ?_
    obtain ⟨e1, e2⟩ := rt_inv h
    exact ret _ _ _ _ ⟨e1, e2⟩ d_Md_entry_18
theorem vc_La_Md_entry {p : Program} {l : Launch} {e : Env} {fr rc rs rl : Nat} {s : State} {m : MethodId} {args : Array Value} {below : List Frame} {meth : Method} {c : Code} {cells slots : Nat} {Q : State → Prop} {A : Nat → Prop} {cc : ByteArray} {nL : Nat} {dC : Nat → ClassId} {dI : Nat → Nat → Nat} {cA : ClassId} {ad : Nat → Nat} {pc q : Nat} {lo : List (Option Value)} {rest : List Value} {u w : Mem} {r : Int32} {N : Nat} {b0 : Int32} (h : f_Md_entry N b0 u = some (r, w)) (hfr : 2 + 1 ≤ fr) (hrl : 8 + (2 + 11) + 43 ≤ rl) (hrm : (rest.map fun v => v.category).sum ≤ 8) (hd : decode cc pc = .ok (.invokevirtual 72, 3)) (hq : pc + 3 = q) (k : VJ p l e fr rc rs rl s m args below meth c cells slots Q A cc nL R_La (dC, dI) cA (wA ad cA) q lo (.int r :: rest) w) : VJ p l e fr rc rs rl s m args below meth c cells slots Q A cc nL R_La (dC, dI) cA (wA ad cA) pc lo (.int b0 :: .ref (ad 15) :: rest) u :=
  v_callVI (As := [.int b0]) (rest := rest) (fun sz => c_Md_entry l dC dI ad cA sz N b0 u r w h) tw_523 tw_524 tw_525 15 (wA_15 ad cA u) rfl rfl tw_526 tw_28 1 rfl (by decide +kernel) hfr hrl rfl hrm hd hq (fun v w1 hE => by obtain ⟨rfl, rfl⟩ := hE; exact k)
theorem d_Md_exit_0 : decode b_Md_exit 0 = .ok (.iload_n 1, 1) := by decide +kernel
theorem d_Md_exit_1 : decode b_Md_exit 1 = .ok (.iconst 0, 1) := by decide +kernel
theorem d_Md_exit_2 : decode b_Md_exit 2 = .ok (.iconst 2, 1) := by decide +kernel
theorem d_Md_exit_3 : decode b_Md_exit 3 = .ok (.invokestatic 38, 3) := by decide +kernel
theorem d_Md_exit_6 : decode b_Md_exit 6 = .ok (.ifCond .eq 32, 3) := by decide +kernel
theorem d_Md_exit_9 : decode b_Md_exit 9 = .ok (.iload_n 2, 1) := by decide +kernel
theorem d_Md_exit_10 : decode b_Md_exit 10 = .ok (.iconst 1, 1) := by decide +kernel
theorem d_Md_exit_11 : decode b_Md_exit 11 = .ok (.aload_n 0, 1) := by decide +kernel
theorem d_Md_exit_12 : decode b_Md_exit 12 = .ok (.getfield 42, 3) := by decide +kernel
theorem d_Md_exit_15 : decode b_Md_exit 15 = .ok (.invokestatic 38, 3) := by decide +kernel
theorem d_Md_exit_18 : decode b_Md_exit 18 = .ok (.ifCond .eq 20, 3) := by decide +kernel
theorem d_Md_exit_21 : decode b_Md_exit 21 = .ok (.aload_n 0, 1) := by decide +kernel
theorem d_Md_exit_22 : decode b_Md_exit 22 = .ok (.getfield 22, 3) := by decide +kernel
theorem d_Md_exit_25 : decode b_Md_exit 25 = .ok (.iconst 3, 1) := by decide +kernel
theorem d_Md_exit_26 : decode b_Md_exit 26 = .ok (.iload_n 2, 1) := by decide +kernel
theorem d_Md_exit_27 : decode b_Md_exit 27 = .ok (.imul, 1) := by decide +kernel
theorem d_Md_exit_28 : decode b_Md_exit 28 = .ok (.iload_n 1, 1) := by decide +kernel
theorem d_Md_exit_29 : decode b_Md_exit 29 = .ok (.iadd, 1) := by decide +kernel
theorem d_Md_exit_30 : decode b_Md_exit 30 = .ok (.iaload, 1) := by decide +kernel
theorem d_Md_exit_31 : decode b_Md_exit 31 = .ok (.ifCond .le 7, 3) := by decide +kernel
theorem d_Md_exit_34 : decode b_Md_exit 34 = .ok (.iconst 1, 1) := by decide +kernel
theorem d_Md_exit_35 : decode b_Md_exit 35 = .ok (.goto 4, 3) := by decide +kernel
theorem d_Md_exit_38 : decode b_Md_exit 38 = .ok (.iconst 0, 1) := by decide +kernel
theorem d_Md_exit_39 : decode b_Md_exit 39 = .ok (.istore_n 3, 1) := by decide +kernel
theorem d_Md_exit_40 : decode b_Md_exit 40 = .ok (.iload_n 3, 1) := by decide +kernel
theorem d_Md_exit_41 : decode b_Md_exit 41 = .ok (.ifCond .eq 16, 3) := by decide +kernel
theorem d_Md_exit_44 : decode b_Md_exit 44 = .ok (.aload_n 0, 1) := by decide +kernel
theorem d_Md_exit_45 : decode b_Md_exit 45 = .ok (.getfield 22, 3) := by decide +kernel
theorem d_Md_exit_48 : decode b_Md_exit 48 = .ok (.iconst 3, 1) := by decide +kernel
theorem d_Md_exit_49 : decode b_Md_exit 49 = .ok (.iload_n 2, 1) := by decide +kernel
theorem d_Md_exit_50 : decode b_Md_exit 50 = .ok (.imul, 1) := by decide +kernel
theorem d_Md_exit_51 : decode b_Md_exit 51 = .ok (.iload_n 1, 1) := by decide +kernel
theorem d_Md_exit_52 : decode b_Md_exit 52 = .ok (.iadd, 1) := by decide +kernel
theorem d_Md_exit_53 : decode b_Md_exit 53 = .ok (.iaload, 1) := by decide +kernel
theorem d_Md_exit_54 : decode b_Md_exit 54 = .ok (.goto 4, 3) := by decide +kernel
theorem d_Md_exit_57 : decode b_Md_exit 57 = .ok (.iconst (-1), 1) := by decide +kernel
theorem d_Md_exit_58 : decode b_Md_exit 58 = .ok (.ireturn, 1) := by decide +kernel
set_option maxHeartbeats 4000000 in
set_option maxRecDepth 100000 in
theorem c_Md_exit (l : Launch) (dC : Nat → ClassId) (dI : Nat → Nat → Nat) (ad : Nat → Nat) (cA : ClassId) (sz : Nat) (N : Nat) (a1 a2 : Int32) (u : Mem) (r : Int32) (w : Mem) (h : f_Md_exit N a1 a2 u = some (r, w)) : CtI l y_Md_exit (Cond.code y_Md_exit b_Md_exit 4 (some .int) :: lw_gd) 1 22 (dC, dI) cA [.ref (ad 15), .int a1, .int a2] (wA ad cA) u sz (fun v w1 => v = r ∧ w1 = w) := by
  refine v_metI (own := R_Md) [some (.ref (ad 15)), some (.int a1), some (.int a2), none] rfl (by decide) (Nat.le_of_ble_eq_true rfl) rfl rfl (fun v u h => rfl) ?_
  intro p e s m args below meth c A Q ret
  unfold f_Md_exit at h
  refine v_iload_n d_Md_exit_0 rfl rfl ?_
  refine v_iconst 0 d_Md_exit_1 (by decide) rfl ?_
  refine v_iconst 2 d_Md_exit_2 (by decide) rfl ?_
  obtain ⟨y1, u2, hc3, h⟩ := bd_inv h
  refine vc_Md_Md_within hc3 (Nat.le_of_ble_eq_true rfl) (Nat.le_of_ble_eq_true rfl) (Nat.le_of_ble_eq_true rfl) d_Md_exit_3 rfl ?_
  obtain ⟨J39, eJ39, h⟩ := jn_inv h
  have V39 : ∀ (x4 x5 s6 : Int32) (u7 : Mem), J39 x4 x5 s6 u7 = some (r, w) → VJ p l e 1 0 0 22 s m args below meth c 0 0 Q A b_Md_exit 4 R_Md (dC, dI) cA (wA ad cA) 39 [some (.ref (ad 15)), some (.int x4), some (.int x5), none] [.int s6] u7 := by
    intro x4 x5 s6 u7 h
    rw [eJ39] at h
    refine v_istore_n (lo' := [_, _, _, _]) d_Md_exit_39 rfl (by decide) rfl ?_
    refine v_iload_n d_Md_exit_40 rfl rfl ?_
    refine v_if_eq 57 d_Md_exit_41 (by decide) rfl (fun c9 => ?_) (fun c9 => ?_)
    · replace h := (if_pos c9).symm.trans h
      refine v_iconst (-1) d_Md_exit_57 (by decide) rfl ?_
      obtain ⟨e1, e2⟩ := rt_inv h
      exact ret _ _ _ _ ⟨e1, e2⟩ d_Md_exit_58
    · replace h := (if_neg c9).symm.trans h
      refine v_aload_n d_Md_exit_44 rfl rfl ?_
      refine vg_Md_exitOf d_Md_exit_45 rfl ?_
      refine v_iconst 3 d_Md_exit_48 (by decide) rfl ?_
      refine v_iload_n d_Md_exit_49 rfl rfl ?_
      refine v_imul d_Md_exit_50 rfl ?_
      refine v_iload_n d_Md_exit_51 rfl rfl ?_
      refine v_iadd d_Md_exit_52 rfl ?_
      obtain ⟨g8, h⟩ := gd_inv h
      refine v_ald 20 (wA_20 ad cA _) d_Md_exit_53 g8 rfl ?_
      refine v_goto 58 d_Md_exit_54 (by decide) ?_
      obtain ⟨e1, e2⟩ := rt_inv h
      exact ret _ _ _ _ ⟨e1, e2⟩ d_Md_exit_58
  clear eJ39
  refine v_if_eq 38 d_Md_exit_6 (by decide) rfl (fun c16 => ?_) (fun c16 => ?_)
  · replace h := (if_pos c16).symm.trans h
    refine v_iconst 0 d_Md_exit_38 (by decide) rfl ?_
    exact V39 _ _ _ _ h
  · replace h := (if_neg c16).symm.trans h
    refine v_iload_n d_Md_exit_9 rfl rfl ?_
    refine v_iconst 1 d_Md_exit_10 (by decide) rfl ?_
    refine v_aload_n d_Md_exit_11 rfl rfl ?_
    refine vg_Md_made d_Md_exit_12 rfl ?_
    obtain ⟨y10, u11, hc12, h⟩ := bd_inv h
    refine vc_Md_Md_within hc12 (Nat.le_of_ble_eq_true rfl) (Nat.le_of_ble_eq_true rfl) (Nat.le_of_ble_eq_true rfl) d_Md_exit_15 rfl ?_
    refine v_if_eq 38 d_Md_exit_18 (by decide) rfl (fun c15 => ?_) (fun c15 => ?_)
    · replace h := (if_pos c15).symm.trans h
      refine v_iconst 0 d_Md_exit_38 (by decide) rfl ?_
      exact V39 _ _ _ _ h
    · replace h := (if_neg c15).symm.trans h
      refine v_aload_n d_Md_exit_21 rfl rfl ?_
      refine vg_Md_exitOf d_Md_exit_22 rfl ?_
      refine v_iconst 3 d_Md_exit_25 (by decide) rfl ?_
      refine v_iload_n d_Md_exit_26 rfl rfl ?_
      refine v_imul d_Md_exit_27 rfl ?_
      refine v_iload_n d_Md_exit_28 rfl rfl ?_
      refine v_iadd d_Md_exit_29 rfl ?_
      obtain ⟨g13, h⟩ := gd_inv h
      refine v_ald 20 (wA_20 ad cA _) d_Md_exit_30 g13 rfl ?_
      refine v_if_le 38 d_Md_exit_31 (by decide) rfl (fun c14 => ?_) (fun c14 => ?_)
      · replace h := (if_pos c14).symm.trans h
        refine v_iconst 0 d_Md_exit_38 (by decide) rfl ?_
        exact V39 _ _ _ _ h
      · replace h := (if_neg c14).symm.trans h
        refine v_iconst 1 d_Md_exit_34 (by decide) rfl ?_
        refine v_goto 39 d_Md_exit_35 (by decide) ?_
        exact V39 _ _ _ _ h
theorem vc_La_Md_exit {p : Program} {l : Launch} {e : Env} {fr rc rs rl : Nat} {s : State} {m : MethodId} {args : Array Value} {below : List Frame} {meth : Method} {c : Code} {cells slots : Nat} {Q : State → Prop} {A : Nat → Prop} {cc : ByteArray} {nL : Nat} {dC : Nat → ClassId} {dI : Nat → Nat → Nat} {cA : ClassId} {ad : Nat → Nat} {pc q : Nat} {lo : List (Option Value)} {rest : List Value} {u w : Mem} {r : Int32} {N : Nat} {b0 b1 : Int32} (h : f_Md_exit N b0 b1 u = some (r, w)) (hfr : 1 + 1 ≤ fr) (hrl : 8 + (4 + 11) + 22 ≤ rl) (hrm : (rest.map fun v => v.category).sum ≤ 8) (hd : decode cc pc = .ok (.invokevirtual 76, 3)) (hq : pc + 3 = q) (k : VJ p l e fr rc rs rl s m args below meth c cells slots Q A cc nL R_La (dC, dI) cA (wA ad cA) q lo (.int r :: rest) w) : VJ p l e fr rc rs rl s m args below meth c cells slots Q A cc nL R_La (dC, dI) cA (wA ad cA) pc lo (.int b1 :: .int b0 :: .ref (ad 15) :: rest) u :=
  v_callVI (As := [.int b0, .int b1]) (rest := rest) (fun sz => c_Md_exit l dC dI ad cA sz N b0 b1 u r w h) tw_527 tw_528 tw_529 15 (wA_15 ad cA u) rfl rfl tw_530 tw_28 2 rfl (by decide +kernel) hfr hrl rfl hrm hd hq (fun v w1 hE => by obtain ⟨rfl, rfl⟩ := hE; exact k)
theorem d_Md_messages_0 : decode b_Md_messages 0 = .ok (.aload_n 0, 1) := by decide +kernel
theorem d_Md_messages_1 : decode b_Md_messages 1 = .ok (.getfield 74, 3) := by decide +kernel
theorem d_Md_messages_4 : decode b_Md_messages 4 = .ok (.ireturn, 1) := by decide +kernel
set_option maxHeartbeats 4000000 in
set_option maxRecDepth 100000 in
theorem c_Md_messages (l : Launch) (dC : Nat → ClassId) (dI : Nat → Nat → Nat) (ad : Nat → Nat) (cA : ClassId) (sz : Nat) (N : Nat) (u : Mem) (r : Int32) (w : Mem) (h : f_Md_messages N u = some (r, w)) : CtI l y_Md_messages (Cond.code y_Md_messages b_Md_messages 1 (some .int) :: lw_gd) 0 0 (dC, dI) cA [.ref (ad 15)] (wA ad cA) u sz (fun v w1 => v = r ∧ w1 = w) := by
  refine v_metI (own := R_Md) [some (.ref (ad 15))] rfl (by decide) (Nat.le_of_ble_eq_true rfl) rfl rfl (fun v u h => rfl) ?_
  intro p e s m args below meth c A Q ret
  unfold f_Md_messages at h
  refine v_aload_n d_Md_messages_0 rfl rfl ?_
  refine vg_Md_sent d_Md_messages_1 rfl ?_
  obtain ⟨e1, e2⟩ := rt_inv h
  exact ret _ _ _ _ ⟨e1, e2⟩ d_Md_messages_4
theorem vc_La_Md_messages {p : Program} {l : Launch} {e : Env} {fr rc rs rl : Nat} {s : State} {m : MethodId} {args : Array Value} {below : List Frame} {meth : Method} {c : Code} {cells slots : Nat} {Q : State → Prop} {A : Nat → Prop} {cc : ByteArray} {nL : Nat} {dC : Nat → ClassId} {dI : Nat → Nat → Nat} {cA : ClassId} {ad : Nat → Nat} {pc q : Nat} {lo : List (Option Value)} {rest : List Value} {u w : Mem} {r : Int32} {N : Nat} (h : f_Md_messages N u = some (r, w)) (hfr : 0 + 1 ≤ fr) (hrl : 8 + (1 + 11) + 0 ≤ rl) (hrm : (rest.map fun v => v.category).sum ≤ 8) (hd : decode cc pc = .ok (.invokevirtual 80, 3)) (hq : pc + 3 = q) (k : VJ p l e fr rc rs rl s m args below meth c cells slots Q A cc nL R_La (dC, dI) cA (wA ad cA) q lo (.int r :: rest) w) : VJ p l e fr rc rs rl s m args below meth c cells slots Q A cc nL R_La (dC, dI) cA (wA ad cA) pc lo (.ref (ad 15) :: rest) u :=
  v_callVI (As := []) (rest := rest) (fun sz => c_Md_messages l dC dI ad cA sz N u r w h) tw_531 tw_532 tw_533 15 (wA_15 ad cA u) rfl rfl tw_534 tw_28 0 rfl (by decide +kernel) hfr hrl rfl hrm hd hq (fun v w1 hE => by obtain ⟨rfl, rfl⟩ := hE; exact k)
theorem d_Md_message_0 : decode b_Md_message 0 = .ok (.iload_n 1, 1) := by decide +kernel
theorem d_Md_message_1 : decode b_Md_message 1 = .ok (.iconst 0, 1) := by decide +kernel
theorem d_Md_message_2 : decode b_Md_message 2 = .ok (.aload_n 0, 1) := by decide +kernel
theorem d_Md_message_3 : decode b_Md_message 3 = .ok (.getfield 74, 3) := by decide +kernel
theorem d_Md_message_6 : decode b_Md_message 6 = .ok (.iconst 1, 1) := by decide +kernel
theorem d_Md_message_7 : decode b_Md_message 7 = .ok (.isub, 1) := by decide +kernel
theorem d_Md_message_8 : decode b_Md_message 8 = .ok (.invokestatic 38, 3) := by decide +kernel
theorem d_Md_message_11 : decode b_Md_message 11 = .ok (.ifCond .eq 25, 3) := by decide +kernel
theorem d_Md_message_14 : decode b_Md_message 14 = .ok (.iload_n 2, 1) := by decide +kernel
theorem d_Md_message_15 : decode b_Md_message 15 = .ok (.iconst 0, 1) := by decide +kernel
theorem d_Md_message_16 : decode b_Md_message 16 = .ok (.iconst 3, 1) := by decide +kernel
theorem d_Md_message_17 : decode b_Md_message 17 = .ok (.invokestatic 38, 3) := by decide +kernel
theorem d_Md_message_20 : decode b_Md_message 20 = .ok (.ifCond .eq 16, 3) := by decide +kernel
theorem d_Md_message_23 : decode b_Md_message 23 = .ok (.aload_n 0, 1) := by decide +kernel
theorem d_Md_message_24 : decode b_Md_message 24 = .ok (.getfield 31, 3) := by decide +kernel
theorem d_Md_message_27 : decode b_Md_message 27 = .ok (.iconst 4, 1) := by decide +kernel
theorem d_Md_message_28 : decode b_Md_message 28 = .ok (.iload_n 1, 1) := by decide +kernel
theorem d_Md_message_29 : decode b_Md_message 29 = .ok (.imul, 1) := by decide +kernel
theorem d_Md_message_30 : decode b_Md_message 30 = .ok (.iload_n 2, 1) := by decide +kernel
theorem d_Md_message_31 : decode b_Md_message 31 = .ok (.iadd, 1) := by decide +kernel
theorem d_Md_message_32 : decode b_Md_message 32 = .ok (.iaload, 1) := by decide +kernel
theorem d_Md_message_33 : decode b_Md_message 33 = .ok (.goto 4, 3) := by decide +kernel
theorem d_Md_message_36 : decode b_Md_message 36 = .ok (.iconst (-1), 1) := by decide +kernel
theorem d_Md_message_37 : decode b_Md_message 37 = .ok (.ireturn, 1) := by decide +kernel
set_option maxHeartbeats 4000000 in
set_option maxRecDepth 100000 in
theorem c_Md_message (l : Launch) (dC : Nat → ClassId) (dI : Nat → Nat → Nat) (ad : Nat → Nat) (cA : ClassId) (sz : Nat) (N : Nat) (a1 a2 : Int32) (u : Mem) (r : Int32) (w : Mem) (h : f_Md_message N a1 a2 u = some (r, w)) : CtI l y_Md_message (Cond.code y_Md_message b_Md_message 3 (some .int) :: lw_gd) 1 22 (dC, dI) cA [.ref (ad 15), .int a1, .int a2] (wA ad cA) u sz (fun v w1 => v = r ∧ w1 = w) := by
  refine v_metI (own := R_Md) [some (.ref (ad 15)), some (.int a1), some (.int a2)] rfl (by decide) (Nat.le_of_ble_eq_true rfl) rfl rfl (fun v u h => rfl) ?_
  intro p e s m args below meth c A Q ret
  unfold f_Md_message at h
  refine v_iload_n d_Md_message_0 rfl rfl ?_
  refine v_iconst 0 d_Md_message_1 (by decide) rfl ?_
  refine v_aload_n d_Md_message_2 rfl rfl ?_
  refine vg_Md_sent d_Md_message_3 rfl ?_
  refine v_iconst 1 d_Md_message_6 (by decide) rfl ?_
  refine v_isub d_Md_message_7 rfl ?_
  obtain ⟨y1, u2, hc3, h⟩ := bd_inv h
  refine vc_Md_Md_within hc3 (Nat.le_of_ble_eq_true rfl) (Nat.le_of_ble_eq_true rfl) (Nat.le_of_ble_eq_true rfl) d_Md_message_8 rfl ?_
  refine v_if_eq 36 d_Md_message_11 (by decide) rfl (fun c9 => ?_) (fun c9 => ?_)
  · replace h := (if_pos c9).symm.trans h
    refine v_iconst (-1) d_Md_message_36 (by decide) rfl ?_
    obtain ⟨e1, e2⟩ := rt_inv h
    exact ret _ _ _ _ ⟨e1, e2⟩ d_Md_message_37
  · replace h := (if_neg c9).symm.trans h
    refine v_iload_n d_Md_message_14 rfl rfl ?_
    refine v_iconst 0 d_Md_message_15 (by decide) rfl ?_
    refine v_iconst 3 d_Md_message_16 (by decide) rfl ?_
    obtain ⟨y4, u5, hc6, h⟩ := bd_inv h
    refine vc_Md_Md_within hc6 (Nat.le_of_ble_eq_true rfl) (Nat.le_of_ble_eq_true rfl) (Nat.le_of_ble_eq_true rfl) d_Md_message_17 rfl ?_
    refine v_if_eq 36 d_Md_message_20 (by decide) rfl (fun c8 => ?_) (fun c8 => ?_)
    · replace h := (if_pos c8).symm.trans h
      refine v_iconst (-1) d_Md_message_36 (by decide) rfl ?_
      obtain ⟨e1, e2⟩ := rt_inv h
      exact ret _ _ _ _ ⟨e1, e2⟩ d_Md_message_37
    · replace h := (if_neg c8).symm.trans h
      refine v_aload_n d_Md_message_23 rfl rfl ?_
      refine vg_Md_post d_Md_message_24 rfl ?_
      refine v_iconst 4 d_Md_message_27 (by decide) rfl ?_
      refine v_iload_n d_Md_message_28 rfl rfl ?_
      refine v_imul d_Md_message_29 rfl ?_
      refine v_iload_n d_Md_message_30 rfl rfl ?_
      refine v_iadd d_Md_message_31 rfl ?_
      obtain ⟨g7, h⟩ := gd_inv h
      refine v_ald 23 (wA_23 ad cA _) d_Md_message_32 g7 rfl ?_
      refine v_goto 37 d_Md_message_33 (by decide) ?_
      obtain ⟨e1, e2⟩ := rt_inv h
      exact ret _ _ _ _ ⟨e1, e2⟩ d_Md_message_37
theorem vc_La_Md_message {p : Program} {l : Launch} {e : Env} {fr rc rs rl : Nat} {s : State} {m : MethodId} {args : Array Value} {below : List Frame} {meth : Method} {c : Code} {cells slots : Nat} {Q : State → Prop} {A : Nat → Prop} {cc : ByteArray} {nL : Nat} {dC : Nat → ClassId} {dI : Nat → Nat → Nat} {cA : ClassId} {ad : Nat → Nat} {pc q : Nat} {lo : List (Option Value)} {rest : List Value} {u w : Mem} {r : Int32} {N : Nat} {b0 b1 : Int32} (h : f_Md_message N b0 b1 u = some (r, w)) (hfr : 1 + 1 ≤ fr) (hrl : 8 + (3 + 11) + 22 ≤ rl) (hrm : (rest.map fun v => v.category).sum ≤ 8) (hd : decode cc pc = .ok (.invokevirtual 84, 3)) (hq : pc + 3 = q) (k : VJ p l e fr rc rs rl s m args below meth c cells slots Q A cc nL R_La (dC, dI) cA (wA ad cA) q lo (.int r :: rest) w) : VJ p l e fr rc rs rl s m args below meth c cells slots Q A cc nL R_La (dC, dI) cA (wA ad cA) pc lo (.int b1 :: .int b0 :: .ref (ad 15) :: rest) u :=
  v_callVI (As := [.int b0, .int b1]) (rest := rest) (fun sz => c_Md_message l dC dI ad cA sz N b0 b1 u r w h) tw_535 tw_536 tw_537 15 (wA_15 ad cA u) rfl rfl tw_538 tw_28 2 rfl (by decide +kernel) hfr hrl rfl hrm hd hq (fun v w1 hE => by obtain ⟨rfl, rfl⟩ := hE; exact k)
theorem d_Md_threshold_0 : decode b_Md_threshold 0 = .ok (.aload_n 0, 1) := by decide +kernel
theorem d_Md_threshold_1 : decode b_Md_threshold 1 = .ok (.getfield 57, 3) := by decide +kernel
theorem d_Md_threshold_4 : decode b_Md_threshold 4 = .ok (.ireturn, 1) := by decide +kernel
set_option maxHeartbeats 4000000 in
set_option maxRecDepth 100000 in
theorem c_Md_threshold (l : Launch) (dC : Nat → ClassId) (dI : Nat → Nat → Nat) (ad : Nat → Nat) (cA : ClassId) (sz : Nat) (N : Nat) (u : Mem) (r : Int32) (w : Mem) (h : f_Md_threshold N u = some (r, w)) : CtI l y_Md_threshold (Cond.code y_Md_threshold b_Md_threshold 1 (some .int) :: lw_gd) 0 0 (dC, dI) cA [.ref (ad 15)] (wA ad cA) u sz (fun v w1 => v = r ∧ w1 = w) := by
  refine v_metI (own := R_Md) [some (.ref (ad 15))] rfl (by decide) (Nat.le_of_ble_eq_true rfl) rfl rfl (fun v u h => rfl) ?_
  intro p e s m args below meth c A Q ret
  unfold f_Md_threshold at h
  refine v_aload_n d_Md_threshold_0 rfl rfl ?_
  refine vg_Md_limit d_Md_threshold_1 rfl ?_
  obtain ⟨e1, e2⟩ := rt_inv h
  exact ret _ _ _ _ ⟨e1, e2⟩ d_Md_threshold_4
theorem vc_La_Md_threshold {p : Program} {l : Launch} {e : Env} {fr rc rs rl : Nat} {s : State} {m : MethodId} {args : Array Value} {below : List Frame} {meth : Method} {c : Code} {cells slots : Nat} {Q : State → Prop} {A : Nat → Prop} {cc : ByteArray} {nL : Nat} {dC : Nat → ClassId} {dI : Nat → Nat → Nat} {cA : ClassId} {ad : Nat → Nat} {pc q : Nat} {lo : List (Option Value)} {rest : List Value} {u w : Mem} {r : Int32} {N : Nat} (h : f_Md_threshold N u = some (r, w)) (hfr : 0 + 1 ≤ fr) (hrl : 8 + (1 + 11) + 0 ≤ rl) (hrm : (rest.map fun v => v.category).sum ≤ 8) (hd : decode cc pc = .ok (.invokevirtual 92, 3)) (hq : pc + 3 = q) (k : VJ p l e fr rc rs rl s m args below meth c cells slots Q A cc nL R_La (dC, dI) cA (wA ad cA) q lo (.int r :: rest) w) : VJ p l e fr rc rs rl s m args below meth c cells slots Q A cc nL R_La (dC, dI) cA (wA ad cA) pc lo (.ref (ad 15) :: rest) u :=
  v_callVI (As := []) (rest := rest) (fun sz => c_Md_threshold l dC dI ad cA sz N u r w h) tw_539 tw_540 tw_541 15 (wA_15 ad cA u) rfl rfl tw_542 tw_28 0 rfl (by decide +kernel) hfr hrl rfl hrm hd hq (fun v w1 hE => by obtain ⟨rfl, rfl⟩ := hE; exact k)
