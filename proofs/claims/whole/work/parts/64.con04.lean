/-! Contracts. -/
theorem d_Sh_threshold_0 : decode b_Sh_threshold 0 = .ok (.aload_n 0, 1) := by decide +kernel
theorem d_Sh_threshold_1 : decode b_Sh_threshold 1 = .ok (.getfield 130, 3) := by decide +kernel
theorem d_Sh_threshold_4 : decode b_Sh_threshold 4 = .ok (.ireturn, 1) := by decide +kernel
set_option maxHeartbeats 4000000 in
set_option maxRecDepth 100000 in
theorem c_Sh_threshold (l : Launch) (dC : Nat → ClassId) (dI : Nat → Nat → Nat) (ad : Nat → Nat) (cA : ClassId) (sz : Nat) (N : Nat) (u : Mem) (r : Int32) (w : Mem) (h : f_Sh_threshold N u = some (r, w)) : CtI l y_Sh_threshold (Cond.code y_Sh_threshold b_Sh_threshold 1 (some .int) :: lw_gd) 0 0 (dC, dI) cA [.ref (ad 0)] (wA ad cA) u sz (fun v w1 => v = r ∧ w1 = w) := by
  refine v_metI (own := R_Sh) [some (.ref (ad 0))] rfl (by decide) (Nat.le_of_ble_eq_true rfl) rfl rfl (fun v u h => rfl) ?_
  intro p e s m args below meth c A Q ret
  unfold f_Sh_threshold at h
  refine v_aload_n d_Sh_threshold_0 rfl rfl ?_
  refine vg_Sh_threshold d_Sh_threshold_1 rfl ?_
  obtain ⟨e1, e2⟩ := rt_inv h
  exact ret _ _ _ _ ⟨e1, e2⟩ d_Sh_threshold_4
theorem vc_La_Sh_threshold {p : Program} {l : Launch} {e : Env} {fr rc rs rl : Nat} {s : State} {m : MethodId} {args : Array Value} {below : List Frame} {meth : Method} {c : Code} {cells slots : Nat} {Q : State → Prop} {A : Nat → Prop} {cc : ByteArray} {nL : Nat} {dC : Nat → ClassId} {dI : Nat → Nat → Nat} {cA : ClassId} {ad : Nat → Nat} {pc q : Nat} {lo : List (Option Value)} {rest : List Value} {u w : Mem} {r : Int32} {N : Nat} (h : f_Sh_threshold N u = some (r, w)) (hfr : 0 + 1 ≤ fr) (hrl : 8 + (1 + 11) + 0 ≤ rl) (hrm : (rest.map fun v => v.category).sum ≤ 8) (hd : decode cc pc = .ok (.invokevirtual 89, 3)) (hq : pc + 3 = q) (k : VJ p l e fr rc rs rl s m args below meth c cells slots Q A cc nL R_La (dC, dI) cA (wA ad cA) q lo (.int r :: rest) w) : VJ p l e fr rc rs rl s m args below meth c cells slots Q A cc nL R_La (dC, dI) cA (wA ad cA) pc lo (.ref (ad 0) :: rest) u :=
  v_callVI (As := []) (rest := rest) (fun sz => c_Sh_threshold l dC dI ad cA sz N u r w h) tw_380 tw_381 tw_382 0 (wA_0 ad cA u) rfl rfl tw_383 tw_24 0 rfl (by decide +kernel) hfr hrl rfl hrm hd hq (fun v w1 hE => by obtain ⟨rfl, rfl⟩ := hE; exact k)
theorem d_Md_within_0 : decode b_Md_within 0 = .ok (.iload_n 0, 1) := by decide +kernel
theorem d_Md_within_1 : decode b_Md_within 1 = .ok (.iload_n 1, 1) := by decide +kernel
theorem d_Md_within_2 : decode b_Md_within 2 = .ok (.if_icmp .lt 12, 3) := by decide +kernel
theorem d_Md_within_5 : decode b_Md_within 5 = .ok (.iload_n 0, 1) := by decide +kernel
theorem d_Md_within_6 : decode b_Md_within 6 = .ok (.iload_n 2, 1) := by decide +kernel
theorem d_Md_within_7 : decode b_Md_within 7 = .ok (.if_icmp .gt 7, 3) := by decide +kernel
theorem d_Md_within_10 : decode b_Md_within 10 = .ok (.iconst 1, 1) := by decide +kernel
theorem d_Md_within_11 : decode b_Md_within 11 = .ok (.goto 4, 3) := by decide +kernel
theorem d_Md_within_14 : decode b_Md_within 14 = .ok (.iconst 0, 1) := by decide +kernel
theorem d_Md_within_15 : decode b_Md_within 15 = .ok (.ireturn, 1) := by decide +kernel
set_option maxHeartbeats 4000000 in
set_option maxRecDepth 100000 in
theorem c_Md_within (l : Launch) (dC : Nat → ClassId) (dI : Nat → Nat → Nat) (ad : Nat → Nat) (cA : ClassId) (sz : Nat) (N : Nat) (a0 a1 a2 : Int32) (u : Mem) (r : Int32) (w : Mem) (h : f_Md_within N a0 a1 a2 u = some (r, w)) : CtI l y_Md_within (Cond.code y_Md_within b_Md_within 3 (some .boolean) :: lw_gd) 0 0 (dC, dI) cA [.int a0, .int a1, .int a2] (wA ad cA) u sz (fun v w1 => v = r ∧ w1 = w ∧ (v = 0 ∨ v = 1)) := by
  refine v_metI (own := R_Md) [some (.int a0), some (.int a1), some (.int a2)] rfl (by decide) (Nat.le_of_ble_eq_true rfl) rfl rfl (fun v u h => by rcases h.2.2 with h | h <;> rw [h] <;> rfl) ?_
  intro p e s m args below meth c A Q ret
  unfold f_Md_within at h
  refine v_iload_n d_Md_within_0 rfl rfl ?_
  refine v_iload_n d_Md_within_1 rfl rfl ?_
  refine v_icmp_lt 14 d_Md_within_2 (by decide) rfl (fun c2 => ?_) (fun c2 => ?_)
  · replace h := (if_pos c2).symm.trans h
    refine v_iconst 0 d_Md_within_14 (by decide) rfl ?_
    obtain ⟨e1, e2⟩ := rt_inv h
    exact ret _ _ _ _ ⟨e1, e2, Or.inl rfl⟩ d_Md_within_15
  · replace h := (if_neg c2).symm.trans h
    refine v_iload_n d_Md_within_5 rfl rfl ?_
    refine v_iload_n d_Md_within_6 rfl rfl ?_
    refine v_icmp_gt 14 d_Md_within_7 (by decide) rfl (fun c1 => ?_) (fun c1 => ?_)
    · replace h := (if_pos c1).symm.trans h
      refine v_iconst 0 d_Md_within_14 (by decide) rfl ?_
      obtain ⟨e1, e2⟩ := rt_inv h
      exact ret _ _ _ _ ⟨e1, e2, Or.inl rfl⟩ d_Md_within_15
    · replace h := (if_neg c1).symm.trans h
      refine v_iconst 1 d_Md_within_10 (by decide) rfl ?_
      refine v_goto 15 d_Md_within_11 (by decide) ?_
      obtain ⟨e1, e2⟩ := rt_inv h
      exact ret _ _ _ _ ⟨e1, e2, Or.inr rfl⟩ d_Md_within_15
theorem vc_Md_Md_within {p : Program} {l : Launch} {e : Env} {fr rc rs rl : Nat} {s : State} {m : MethodId} {args : Array Value} {below : List Frame} {meth : Method} {c : Code} {cells slots : Nat} {Q : State → Prop} {A : Nat → Prop} {cc : ByteArray} {nL : Nat} {dC : Nat → ClassId} {dI : Nat → Nat → Nat} {cA : ClassId} {ad : Nat → Nat} {pc q : Nat} {lo : List (Option Value)} {rest : List Value} {u w : Mem} {r : Int32} {N : Nat} {b0 b1 b2 : Int32} (h : f_Md_within N b0 b1 b2 u = some (r, w)) (hfr : 0 + 1 ≤ fr) (hrl : 8 + (3 + 11) + 0 ≤ rl) (hrm : (rest.map fun v => v.category).sum ≤ 8) (hd : decode cc pc = .ok (.invokestatic 38, 3)) (hq : pc + 3 = q) (k : VJ p l e fr rc rs rl s m args below meth c cells slots Q A cc nL R_Md (dC, dI) cA (wA ad cA) q lo (.int r :: rest) w) : VJ p l e fr rc rs rl s m args below meth c cells slots Q A cc nL R_Md (dC, dI) cA (wA ad cA) pc lo (.int b2 :: .int b1 :: .int b0 ::  rest) u :=
  v_callSI (As := [.int b0, .int b1, .int b2]) (rest := rest) (fun sz => c_Md_within l dC dI ad cA sz N b0 b1 b2 u r w h) tw_438 tw_439 tw_440 tw_28 3 rfl (by decide +kernel) hfr hrl rfl hrm hd hq (fun v w1 hE => by obtain ⟨rfl, rfl, -⟩ := hE; exact k)
theorem d_Md_isPlace_0 : decode b_Md_isPlace 0 = .ok (.iload_n 0, 1) := by decide +kernel
theorem d_Md_isPlace_1 : decode b_Md_isPlace 1 = .ok (.iconst 0, 1) := by decide +kernel
theorem d_Md_isPlace_2 : decode b_Md_isPlace 2 = .ok (.iconst 2, 1) := by decide +kernel
theorem d_Md_isPlace_3 : decode b_Md_isPlace 3 = .ok (.invokestatic 38, 3) := by decide +kernel
theorem d_Md_isPlace_6 : decode b_Md_isPlace 6 = .ok (.ifCond .eq 16, 3) := by decide +kernel
theorem d_Md_isPlace_9 : decode b_Md_isPlace 9 = .ok (.iload_n 1, 1) := by decide +kernel
theorem d_Md_isPlace_10 : decode b_Md_isPlace 10 = .ok (.iconst 0, 1) := by decide +kernel
theorem d_Md_isPlace_11 : decode b_Md_isPlace 11 = .ok (.iconst 2, 1) := by decide +kernel
theorem d_Md_isPlace_12 : decode b_Md_isPlace 12 = .ok (.invokestatic 38, 3) := by decide +kernel
theorem d_Md_isPlace_15 : decode b_Md_isPlace 15 = .ok (.ifCond .eq 7, 3) := by decide +kernel
theorem d_Md_isPlace_18 : decode b_Md_isPlace 18 = .ok (.iconst 1, 1) := by decide +kernel
theorem d_Md_isPlace_19 : decode b_Md_isPlace 19 = .ok (.goto 4, 3) := by decide +kernel
theorem d_Md_isPlace_22 : decode b_Md_isPlace 22 = .ok (.iconst 0, 1) := by decide +kernel
theorem d_Md_isPlace_23 : decode b_Md_isPlace 23 = .ok (.ireturn, 1) := by decide +kernel
set_option maxHeartbeats 4000000 in
set_option maxRecDepth 100000 in
theorem c_Md_isPlace (l : Launch) (dC : Nat → ClassId) (dI : Nat → Nat → Nat) (ad : Nat → Nat) (cA : ClassId) (sz : Nat) (N : Nat) (a0 a1 : Int32) (u : Mem) (r : Int32) (w : Mem) (h : f_Md_isPlace N a0 a1 u = some (r, w)) : CtI l y_Md_isPlace (Cond.code y_Md_isPlace b_Md_isPlace 2 (some .boolean) :: lw_gd) 1 22 (dC, dI) cA [.int a0, .int a1] (wA ad cA) u sz (fun v w1 => v = r ∧ w1 = w ∧ (v = 0 ∨ v = 1)) := by
  refine v_metI (own := R_Md) [some (.int a0), some (.int a1)] rfl (by decide) (Nat.le_of_ble_eq_true rfl) rfl rfl (fun v u h => by rcases h.2.2 with h | h <;> rw [h] <;> rfl) ?_
  intro p e s m args below meth c A Q ret
  unfold f_Md_isPlace at h
  refine v_iload_n d_Md_isPlace_0 rfl rfl ?_
  refine v_iconst 0 d_Md_isPlace_1 (by decide) rfl ?_
  refine v_iconst 2 d_Md_isPlace_2 (by decide) rfl ?_
  obtain ⟨y1, u2, hc3, h⟩ := bd_inv h
  refine vc_Md_Md_within hc3 (Nat.le_of_ble_eq_true rfl) (Nat.le_of_ble_eq_true rfl) (Nat.le_of_ble_eq_true rfl) d_Md_isPlace_3 rfl ?_
  refine v_if_eq 22 d_Md_isPlace_6 (by decide) rfl (fun c8 => ?_) (fun c8 => ?_)
  · replace h := (if_pos c8).symm.trans h
    refine v_iconst 0 d_Md_isPlace_22 (by decide) rfl ?_
    obtain ⟨e1, e2⟩ := rt_inv h
    exact ret _ _ _ _ ⟨e1, e2, Or.inl rfl⟩ d_Md_isPlace_23
  · replace h := (if_neg c8).symm.trans h
    refine v_iload_n d_Md_isPlace_9 rfl rfl ?_
    refine v_iconst 0 d_Md_isPlace_10 (by decide) rfl ?_
    refine v_iconst 2 d_Md_isPlace_11 (by decide) rfl ?_
    obtain ⟨y4, u5, hc6, h⟩ := bd_inv h
    refine vc_Md_Md_within hc6 (Nat.le_of_ble_eq_true rfl) (Nat.le_of_ble_eq_true rfl) (Nat.le_of_ble_eq_true rfl) d_Md_isPlace_12 rfl ?_
    refine v_if_eq 22 d_Md_isPlace_15 (by decide) rfl (fun c7 => ?_) (fun c7 => ?_)
    · replace h := (if_pos c7).symm.trans h
      refine v_iconst 0 d_Md_isPlace_22 (by decide) rfl ?_
      obtain ⟨e1, e2⟩ := rt_inv h
      exact ret _ _ _ _ ⟨e1, e2, Or.inl rfl⟩ d_Md_isPlace_23
    · replace h := (if_neg c7).symm.trans h
      refine v_iconst 1 d_Md_isPlace_18 (by decide) rfl ?_
      refine v_goto 23 d_Md_isPlace_19 (by decide) ?_
      obtain ⟨e1, e2⟩ := rt_inv h
      exact ret _ _ _ _ ⟨e1, e2, Or.inr rfl⟩ d_Md_isPlace_23
theorem vc_Md_Md_isPlace {p : Program} {l : Launch} {e : Env} {fr rc rs rl : Nat} {s : State} {m : MethodId} {args : Array Value} {below : List Frame} {meth : Method} {c : Code} {cells slots : Nat} {Q : State → Prop} {A : Nat → Prop} {cc : ByteArray} {nL : Nat} {dC : Nat → ClassId} {dI : Nat → Nat → Nat} {cA : ClassId} {ad : Nat → Nat} {pc q : Nat} {lo : List (Option Value)} {rest : List Value} {u w : Mem} {r : Int32} {N : Nat} {b0 b1 : Int32} (h : f_Md_isPlace N b0 b1 u = some (r, w)) (hfr : 1 + 1 ≤ fr) (hrl : 8 + (2 + 11) + 22 ≤ rl) (hrm : (rest.map fun v => v.category).sum ≤ 8) (hd : decode cc pc = .ok (.invokestatic 60, 3)) (hq : pc + 3 = q) (k : VJ p l e fr rc rs rl s m args below meth c cells slots Q A cc nL R_Md (dC, dI) cA (wA ad cA) q lo (.int r :: rest) w) : VJ p l e fr rc rs rl s m args below meth c cells slots Q A cc nL R_Md (dC, dI) cA (wA ad cA) pc lo (.int b1 :: .int b0 ::  rest) u :=
  v_callSI (As := [.int b0, .int b1]) (rest := rest) (fun sz => c_Md_isPlace l dC dI ad cA sz N b0 b1 u r w h) tw_435 tw_436 tw_437 tw_28 2 rfl (by decide +kernel) hfr hrl rfl hrm hd hq (fun v w1 hE => by obtain ⟨rfl, rfl, -⟩ := hE; exact k)
theorem d_Md_objects_0 : decode b_Md_objects 0 = .ok (.iload_n 1, 1) := by decide +kernel
theorem d_Md_objects_1 : decode b_Md_objects 1 = .ok (.iconst 0, 1) := by decide +kernel
theorem d_Md_objects_2 : decode b_Md_objects 2 = .ok (.iconst 2, 1) := by decide +kernel
theorem d_Md_objects_3 : decode b_Md_objects 3 = .ok (.invokestatic 38, 3) := by decide +kernel
theorem d_Md_objects_6 : decode b_Md_objects 6 = .ok (.ifCond .ne 5, 3) := by decide +kernel
theorem d_Md_objects_9 : decode b_Md_objects 9 = .ok (.iconst (-1), 1) := by decide +kernel
theorem d_Md_objects_10 : decode b_Md_objects 10 = .ok (.ireturn, 1) := by decide +kernel
theorem d_Md_objects_11 : decode b_Md_objects 11 = .ok (.iconst 0, 1) := by decide +kernel
theorem d_Md_objects_12 : decode b_Md_objects 12 = .ok (.istore_n 2, 1) := by decide +kernel
theorem d_Md_objects_13 : decode b_Md_objects 13 = .ok (.iconst 1, 1) := by decide +kernel
theorem d_Md_objects_14 : decode b_Md_objects 14 = .ok (.istore_n 3, 1) := by decide +kernel
theorem d_Md_objects_15 : decode b_Md_objects 15 = .ok (.iload_n 3, 1) := by decide +kernel
theorem d_Md_objects_16 : decode b_Md_objects 16 = .ok (.aload_n 0, 1) := by decide +kernel
theorem d_Md_objects_17 : decode b_Md_objects 17 = .ok (.getfield 42, 3) := by decide +kernel
theorem d_Md_objects_20 : decode b_Md_objects 20 = .ok (.if_icmp .gt 27, 3) := by decide +kernel
theorem d_Md_objects_23 : decode b_Md_objects 23 = .ok (.aload_n 0, 1) := by decide +kernel
theorem d_Md_objects_24 : decode b_Md_objects 24 = .ok (.getfield 7, 3) := by decide +kernel
theorem d_Md_objects_27 : decode b_Md_objects 27 = .ok (.iload_n 3, 1) := by decide +kernel
theorem d_Md_objects_28 : decode b_Md_objects 28 = .ok (.iaload, 1) := by decide +kernel
theorem d_Md_objects_29 : decode b_Md_objects 29 = .ok (.iload_n 1, 1) := by decide +kernel
theorem d_Md_objects_30 : decode b_Md_objects 30 = .ok (.if_icmp .ne 9, 3) := by decide +kernel
theorem d_Md_objects_33 : decode b_Md_objects 33 = .ok (.iload_n 2, 1) := by decide +kernel
theorem d_Md_objects_34 : decode b_Md_objects 34 = .ok (.iconst 1, 1) := by decide +kernel
theorem d_Md_objects_35 : decode b_Md_objects 35 = .ok (.iadd, 1) := by decide +kernel
theorem d_Md_objects_36 : decode b_Md_objects 36 = .ok (.goto 4, 3) := by decide +kernel
theorem d_Md_objects_39 : decode b_Md_objects 39 = .ok (.iload_n 2, 1) := by decide +kernel
theorem d_Md_objects_40 : decode b_Md_objects 40 = .ok (.istore_n 2, 1) := by decide +kernel
theorem d_Md_objects_41 : decode b_Md_objects 41 = .ok (.iinc 3 1, 3) := by decide +kernel
theorem d_Md_objects_44 : decode b_Md_objects 44 = .ok (.goto (-29), 3) := by decide +kernel
theorem d_Md_objects_47 : decode b_Md_objects 47 = .ok (.iload_n 2, 1) := by decide +kernel
theorem d_Md_objects_48 : decode b_Md_objects 48 = .ok (.ireturn, 1) := by decide +kernel
set_option maxHeartbeats 4000000 in
set_option maxRecDepth 100000 in
theorem c_Md_objects (l : Launch) (dC : Nat → ClassId) (dI : Nat → Nat → Nat) (ad : Nat → Nat) (cA : ClassId) (sz : Nat) (N : Nat) (a1 : Int32) (u : Mem) (r : Int32) (w : Mem) (h : f_Md_objects N a1 u = some (r, w)) : CtI l y_Md_objects (Cond.code y_Md_objects b_Md_objects 4 (some .int) :: lw_gd) 1 22 (dC, dI) cA [.ref (ad 15), .int a1] (wA ad cA) u sz (fun v w1 => v = r ∧ w1 = w) := by
  refine v_metI (own := R_Md) [some (.ref (ad 15)), some (.int a1), none, none] rfl (by decide) (Nat.le_of_ble_eq_true rfl) rfl rfl (fun v u h => rfl) ?_
  intro p e s m args below meth c A Q ret
  unfold f_Md_objects at h
  refine v_iload_n d_Md_objects_0 rfl rfl ?_
  refine v_iconst 0 d_Md_objects_1 (by decide) rfl ?_
  refine v_iconst 2 d_Md_objects_2 (by decide) rfl ?_
  obtain ⟨y1, u2, hc3, h⟩ := bd_inv h
  refine vc_Md_Md_within hc3 (Nat.le_of_ble_eq_true rfl) (Nat.le_of_ble_eq_true rfl) (Nat.le_of_ble_eq_true rfl) d_Md_objects_3 rfl ?_
  refine v_if_ne 11 d_Md_objects_6 (by decide) rfl (fun c13 => ?_) (fun c13 => ?_)
  · replace h := (if_pos c13).symm.trans h
    refine v_iconst (-1) d_Md_objects_9 (by decide) rfl ?_
    obtain ⟨e1, e2⟩ := rt_inv h
    exact ret _ _ _ _ ⟨e1, e2⟩ d_Md_objects_10
  · replace h := (if_neg c13).symm.trans h
    refine v_iconst 0 d_Md_objects_11 (by decide) rfl ?_
    refine v_istore_n (lo' := [_, _, _, none]) d_Md_objects_12 rfl (by decide) rfl ?_
    refine v_iconst 1 d_Md_objects_13 (by decide) rfl ?_
    refine v_istore_n (lo' := [_, _, _, _]) d_Md_objects_14 rfl (by decide) rfl ?_
    have L15 : ∀ (κ : Int32 → Mem → Rs), (∀ (x11 : Int32) (u12 : Mem), κ x11 u12 = some (r, w) → VJ p l e 1 0 0 22 s m args below meth c 0 0 Q A b_Md_objects 4 R_Md (dC, dI) cA (wA ad cA) 47 [none, none, some (.int x11), none] [] u12) → ∀ (n : Nat) (x4 x5 x6 : Int32) (u7 : Mem), k_Md_objects_15 N κ n x4 x5 x6 u7 = some (r, w) → VJ p l e 1 0 0 22 s m args below meth c 0 0 Q A b_Md_objects 4 R_Md (dC, dI) cA (wA ad cA) 15 [some (.ref (ad 15)), some (.int x4), some (.int x5), some (.int x6)] [] u7 := by
      intro κ hκ n
      induction n with
      | zero =>
        intro x4 x5 x6 u7 h
        exact no_ns h
      | succ n ih =>
        intro x4 x5 x6 u7 h
        unfold k_Md_objects_15 at h
        refine v_iload_n d_Md_objects_15 rfl rfl ?_
        refine v_aload_n d_Md_objects_16 rfl rfl ?_
        refine vg_Md_made d_Md_objects_17 rfl ?_
        refine v_icmp_gt 47 d_Md_objects_20 (by decide) rfl (fun c10 => ?_) (fun c10 => ?_)
        · replace h := (if_pos c10).symm.trans h
          refine v_drop 0 (lo' := [none, _, _, _]) rfl ?_
          refine v_drop 1 (lo' := [none, none, _, _]) rfl ?_
          refine v_drop 3 (lo' := [none, none, _, none]) rfl ?_
          exact hκ _ _ h
        · replace h := (if_neg c10).symm.trans h
          refine v_aload_n d_Md_objects_23 rfl rfl ?_
          refine vg_Md_ownerOf d_Md_objects_24 rfl ?_
          refine v_iload_n d_Md_objects_27 rfl rfl ?_
          obtain ⟨g8, h⟩ := gd_inv h
          refine v_ald 16 (wA_16 ad cA _) d_Md_objects_28 g8 rfl ?_
          refine v_iload_n d_Md_objects_29 rfl rfl ?_
          refine v_icmp_ne 39 d_Md_objects_30 (by decide) rfl (fun c9 => ?_) (fun c9 => ?_)
          · replace h := (if_pos c9).symm.trans h
            refine v_iload_n d_Md_objects_33 rfl rfl ?_
            refine v_iconst 1 d_Md_objects_34 (by decide) rfl ?_
            refine v_iadd d_Md_objects_35 rfl ?_
            refine v_goto 40 d_Md_objects_36 (by decide) ?_
            refine v_istore_n (lo' := [_, _, _, _]) d_Md_objects_40 rfl (by decide) rfl ?_
            refine v_iinc (lo' := [_, _, _, _]) 1 d_Md_objects_41 (by decide) rfl rfl (by decide) rfl ?_
            refine v_goto 15 d_Md_objects_44 (by decide) ?_
            exact ih _ _ _ _ h
          · replace h := (if_neg c9).symm.trans h
            refine v_iload_n d_Md_objects_39 rfl rfl ?_
            refine v_istore_n (lo' := [_, _, _, _]) d_Md_objects_40 rfl (by decide) rfl ?_
            refine v_iinc (lo' := [_, _, _, _]) 1 d_Md_objects_41 (by decide) rfl rfl (by decide) rfl ?_
            refine v_goto 15 d_Md_objects_44 (by decide) ?_
            exact ih _ _ _ _ h
    refine L15 _ (fun x11 u12 h => ?_) N _ _ _ _ h
    refine v_iload_n d_Md_objects_47 rfl rfl ?_
    obtain ⟨e1, e2⟩ := rt_inv h
    exact ret _ _ _ _ ⟨e1, e2⟩ d_Md_objects_48
theorem vc_La_Md_objects {p : Program} {l : Launch} {e : Env} {fr rc rs rl : Nat} {s : State} {m : MethodId} {args : Array Value} {below : List Frame} {meth : Method} {c : Code} {cells slots : Nat} {Q : State → Prop} {A : Nat → Prop} {cc : ByteArray} {nL : Nat} {dC : Nat → ClassId} {dI : Nat → Nat → Nat} {cA : ClassId} {ad : Nat → Nat} {pc q : Nat} {lo : List (Option Value)} {rest : List Value} {u w : Mem} {r : Int32} {N : Nat} {b0 : Int32} (h : f_Md_objects N b0 u = some (r, w)) (hfr : 1 + 1 ≤ fr) (hrl : 8 + (4 + 11) + 22 ≤ rl) (hrm : (rest.map fun v => v.category).sum ≤ 8) (hd : decode cc pc = .ok (.invokevirtual 68, 3)) (hq : pc + 3 = q) (k : VJ p l e fr rc rs rl s m args below meth c cells slots Q A cc nL R_La (dC, dI) cA (wA ad cA) q lo (.int r :: rest) w) : VJ p l e fr rc rs rl s m args below meth c cells slots Q A cc nL R_La (dC, dI) cA (wA ad cA) pc lo (.int b0 :: .ref (ad 15) :: rest) u :=
  v_callVI (As := [.int b0]) (rest := rest) (fun sz => c_Md_objects l dC dI ad cA sz N b0 u r w h) tw_522 tw_442 tw_443 15 (wA_15 ad cA u) rfl rfl tw_444 tw_28 1 rfl (by decide +kernel) hfr hrl rfl hrm hd hq (fun v w1 hE => by obtain ⟨rfl, rfl⟩ := hE; exact k)
theorem vc_Md_Md_objects {p : Program} {l : Launch} {e : Env} {fr rc rs rl : Nat} {s : State} {m : MethodId} {args : Array Value} {below : List Frame} {meth : Method} {c : Code} {cells slots : Nat} {Q : State → Prop} {A : Nat → Prop} {cc : ByteArray} {nL : Nat} {dC : Nat → ClassId} {dI : Nat → Nat → Nat} {cA : ClassId} {ad : Nat → Nat} {pc q : Nat} {lo : List (Option Value)} {rest : List Value} {u w : Mem} {r : Int32} {N : Nat} {b0 : Int32} (h : f_Md_objects N b0 u = some (r, w)) (hfr : 1 + 1 ≤ fr) (hrl : 8 + (4 + 11) + 22 ≤ rl) (hrm : (rest.map fun v => v.category).sum ≤ 8) (hd : decode cc pc = .ok (.invokevirtual 64, 3)) (hq : pc + 3 = q) (k : VJ p l e fr rc rs rl s m args below meth c cells slots Q A cc nL R_Md (dC, dI) cA (wA ad cA) q lo (.int r :: rest) w) : VJ p l e fr rc rs rl s m args below meth c cells slots Q A cc nL R_Md (dC, dI) cA (wA ad cA) pc lo (.int b0 :: .ref (ad 15) :: rest) u :=
  v_callVI (As := [.int b0]) (rest := rest) (fun sz => c_Md_objects l dC dI ad cA sz N b0 u r w h) tw_441 tw_442 tw_443 15 (wA_15 ad cA u) rfl rfl tw_444 tw_28 1 rfl (by decide +kernel) hfr hrl rfl hrm hd hq (fun v w1 hE => by obtain ⟨rfl, rfl⟩ := hE; exact k)
theorem d_Md_there_0 : decode b_Md_there 0 = .ok (.iload_n 1, 1) := by decide +kernel
theorem d_Md_there_1 : decode b_Md_there 1 = .ok (.iconst 1, 1) := by decide +kernel
theorem d_Md_there_2 : decode b_Md_there 2 = .ok (.aload_n 0, 1) := by decide +kernel
theorem d_Md_there_3 : decode b_Md_there 3 = .ok (.getfield 42, 3) := by decide +kernel
theorem d_Md_there_6 : decode b_Md_there 6 = .ok (.invokestatic 38, 3) := by decide +kernel
theorem d_Md_there_9 : decode b_Md_there 9 = .ok (.ifCond .eq 16, 3) := by decide +kernel
theorem d_Md_there_12 : decode b_Md_there 12 = .ok (.aload_n 0, 1) := by decide +kernel
theorem d_Md_there_13 : decode b_Md_there 13 = .ok (.getfield 7, 3) := by decide +kernel
theorem d_Md_there_16 : decode b_Md_there 16 = .ok (.iload_n 1, 1) := by decide +kernel
theorem d_Md_there_17 : decode b_Md_there 17 = .ok (.iaload, 1) := by decide +kernel
theorem d_Md_there_18 : decode b_Md_there 18 = .ok (.ifCond .lt 7, 3) := by decide +kernel
theorem d_Md_there_21 : decode b_Md_there 21 = .ok (.iconst 1, 1) := by decide +kernel
theorem d_Md_there_22 : decode b_Md_there 22 = .ok (.goto 4, 3) := by decide +kernel
theorem d_Md_there_25 : decode b_Md_there 25 = .ok (.iconst 0, 1) := by decide +kernel
theorem d_Md_there_26 : decode b_Md_there 26 = .ok (.ireturn, 1) := by decide +kernel
set_option maxHeartbeats 4000000 in
set_option maxRecDepth 100000 in
theorem c_Md_there (l : Launch) (dC : Nat → ClassId) (dI : Nat → Nat → Nat) (ad : Nat → Nat) (cA : ClassId) (sz : Nat) (N : Nat) (a1 : Int32) (u : Mem) (r : Int32) (w : Mem) (h : f_Md_there N a1 u = some (r, w)) : CtI l y_Md_there (Cond.code y_Md_there b_Md_there 2 (some .boolean) :: lw_gd) 1 22 (dC, dI) cA [.ref (ad 15), .int a1] (wA ad cA) u sz (fun v w1 => v = r ∧ w1 = w ∧ (v = 0 ∨ v = 1)) := by
  refine v_metI (own := R_Md) [some (.ref (ad 15)), some (.int a1)] rfl (by decide) (Nat.le_of_ble_eq_true rfl) rfl rfl (fun v u h => by rcases h.2.2 with h | h <;> rw [h] <;> rfl) ?_
  intro p e s m args below meth c A Q ret
  unfold f_Md_there at h
  refine v_iload_n d_Md_there_0 rfl rfl ?_
  refine v_iconst 1 d_Md_there_1 (by decide) rfl ?_
  refine v_aload_n d_Md_there_2 rfl rfl ?_
  refine vg_Md_made d_Md_there_3 rfl ?_
  obtain ⟨y1, u2, hc3, h⟩ := bd_inv h
  refine vc_Md_Md_within hc3 (Nat.le_of_ble_eq_true rfl) (Nat.le_of_ble_eq_true rfl) (Nat.le_of_ble_eq_true rfl) d_Md_there_6 rfl ?_
  refine v_if_eq 25 d_Md_there_9 (by decide) rfl (fun c6 => ?_) (fun c6 => ?_)
  · replace h := (if_pos c6).symm.trans h
    refine v_iconst 0 d_Md_there_25 (by decide) rfl ?_
    obtain ⟨e1, e2⟩ := rt_inv h
    exact ret _ _ _ _ ⟨e1, e2, Or.inl rfl⟩ d_Md_there_26
  · replace h := (if_neg c6).symm.trans h
    refine v_aload_n d_Md_there_12 rfl rfl ?_
    refine vg_Md_ownerOf d_Md_there_13 rfl ?_
    refine v_iload_n d_Md_there_16 rfl rfl ?_
    obtain ⟨g4, h⟩ := gd_inv h
    refine v_ald 16 (wA_16 ad cA _) d_Md_there_17 g4 rfl ?_
    refine v_if_lt 25 d_Md_there_18 (by decide) rfl (fun c5 => ?_) (fun c5 => ?_)
    · replace h := (if_pos c5).symm.trans h
      refine v_iconst 0 d_Md_there_25 (by decide) rfl ?_
      obtain ⟨e1, e2⟩ := rt_inv h
      exact ret _ _ _ _ ⟨e1, e2, Or.inl rfl⟩ d_Md_there_26
    · replace h := (if_neg c5).symm.trans h
      refine v_iconst 1 d_Md_there_21 (by decide) rfl ?_
      refine v_goto 26 d_Md_there_22 (by decide) ?_
      obtain ⟨e1, e2⟩ := rt_inv h
      exact ret _ _ _ _ ⟨e1, e2, Or.inr rfl⟩ d_Md_there_26
theorem vc_Md_Md_there {p : Program} {l : Launch} {e : Env} {fr rc rs rl : Nat} {s : State} {m : MethodId} {args : Array Value} {below : List Frame} {meth : Method} {c : Code} {cells slots : Nat} {Q : State → Prop} {A : Nat → Prop} {cc : ByteArray} {nL : Nat} {dC : Nat → ClassId} {dI : Nat → Nat → Nat} {cA : ClassId} {ad : Nat → Nat} {pc q : Nat} {lo : List (Option Value)} {rest : List Value} {u w : Mem} {r : Int32} {N : Nat} {b0 : Int32} (h : f_Md_there N b0 u = some (r, w)) (hfr : 1 + 1 ≤ fr) (hrl : 8 + (2 + 11) + 22 ≤ rl) (hrm : (rest.map fun v => v.category).sum ≤ 8) (hd : decode cc pc = .ok (.invokevirtual 46, 3)) (hq : pc + 3 = q) (k : VJ p l e fr rc rs rl s m args below meth c cells slots Q A cc nL R_Md (dC, dI) cA (wA ad cA) q lo (.int r :: rest) w) : VJ p l e fr rc rs rl s m args below meth c cells slots Q A cc nL R_Md (dC, dI) cA (wA ad cA) pc lo (.int b0 :: .ref (ad 15) :: rest) u :=
  v_callVI (As := [.int b0]) (rest := rest) (fun sz => c_Md_there l dC dI ad cA sz N b0 u r w h) tw_449 tw_451 tw_16 15 (wA_15 ad cA u) rfl rfl tw_452 tw_28 1 rfl (by decide +kernel) hfr hrl rfl hrm hd hq (fun v w1 hE => by obtain ⟨rfl, rfl, -⟩ := hE; exact k)
theorem d_Md_raise_0 : decode b_Md_raise 0 = .ok (.aload_n 0, 1) := by decide +kernel
theorem d_Md_raise_1 : decode b_Md_raise 1 = .ok (.getfield 13, 3) := by decide +kernel
theorem d_Md_raise_4 : decode b_Md_raise 4 = .ok (.iload_n 1, 1) := by decide +kernel
theorem d_Md_raise_5 : decode b_Md_raise 5 = .ok (.iaload, 1) := by decide +kernel
theorem d_Md_raise_6 : decode b_Md_raise 6 = .ok (.istore_n 3, 1) := by decide +kernel
theorem d_Md_raise_7 : decode b_Md_raise 7 = .ok (.aload_n 0, 1) := by decide +kernel
theorem d_Md_raise_8 : decode b_Md_raise 8 = .ok (.getfield 7, 3) := by decide +kernel
theorem d_Md_raise_11 : decode b_Md_raise 11 = .ok (.iload_n 1, 1) := by decide +kernel
theorem d_Md_raise_12 : decode b_Md_raise 12 = .ok (.iaload, 1) := by decide +kernel
theorem d_Md_raise_13 : decode b_Md_raise 13 = .ok (.istore 4, 2) := by decide +kernel
theorem d_Md_raise_15 : decode b_Md_raise 15 = .ok (.iload_n 2, 1) := by decide +kernel
theorem d_Md_raise_16 : decode b_Md_raise 16 = .ok (.iload_n 3, 1) := by decide +kernel
theorem d_Md_raise_17 : decode b_Md_raise 17 = .ok (.if_icmp .le 39, 3) := by decide +kernel
theorem d_Md_raise_20 : decode b_Md_raise 20 = .ok (.aload_n 0, 1) := by decide +kernel
theorem d_Md_raise_21 : decode b_Md_raise 21 = .ok (.getfield 28, 3) := by decide +kernel
theorem d_Md_raise_24 : decode b_Md_raise 24 = .ok (.iload 4, 2) := by decide +kernel
theorem d_Md_raise_26 : decode b_Md_raise 26 = .ok (.iload_n 3, 1) := by decide +kernel
theorem d_Md_raise_27 : decode b_Md_raise 27 = .ok (.aload_n 0, 1) := by decide +kernel
theorem d_Md_raise_28 : decode b_Md_raise 28 = .ok (.getfield 28, 3) := by decide +kernel
theorem d_Md_raise_31 : decode b_Md_raise 31 = .ok (.iload 4, 2) := by decide +kernel
theorem d_Md_raise_33 : decode b_Md_raise 33 = .ok (.iaload, 1) := by decide +kernel
theorem d_Md_raise_34 : decode b_Md_raise 34 = .ok (.if_icmp .ge 7, 3) := by decide +kernel
theorem d_Md_raise_37 : decode b_Md_raise 37 = .ok (.iload_n 3, 1) := by decide +kernel
theorem d_Md_raise_38 : decode b_Md_raise 38 = .ok (.goto 10, 3) := by decide +kernel
theorem d_Md_raise_41 : decode b_Md_raise 41 = .ok (.aload_n 0, 1) := by decide +kernel
theorem d_Md_raise_42 : decode b_Md_raise 42 = .ok (.getfield 28, 3) := by decide +kernel
theorem d_Md_raise_45 : decode b_Md_raise 45 = .ok (.iload 4, 2) := by decide +kernel
theorem d_Md_raise_47 : decode b_Md_raise 47 = .ok (.iaload, 1) := by decide +kernel
theorem d_Md_raise_48 : decode b_Md_raise 48 = .ok (.iastore, 1) := by decide +kernel
theorem d_Md_raise_49 : decode b_Md_raise 49 = .ok (.aload_n 0, 1) := by decide +kernel
theorem d_Md_raise_50 : decode b_Md_raise 50 = .ok (.getfield 13, 3) := by decide +kernel
theorem d_Md_raise_53 : decode b_Md_raise 53 = .ok (.iload_n 1, 1) := by decide +kernel
theorem d_Md_raise_54 : decode b_Md_raise 54 = .ok (.iload_n 2, 1) := by decide +kernel
theorem d_Md_raise_55 : decode b_Md_raise 55 = .ok (.iastore, 1) := by decide +kernel
theorem d_Md_raise_56 : decode b_Md_raise 56 = .ok (.return_, 1) := by decide +kernel
set_option maxHeartbeats 4000000 in
set_option maxRecDepth 100000 in
theorem c_Md_raise (l : Launch) (dC : Nat → ClassId) (dI : Nat → Nat → Nat) (ad : Nat → Nat) (cA : ClassId) (sz : Nat) (N : Nat) (a1 a2 : Int32) (u : Mem) (r : Int32) (w : Mem) (h : f_Md_raise N a1 a2 u = some (r, w)) : CtV l y_Md_raise (Cond.code y_Md_raise b_Md_raise 5 none :: lw_gd) 0 0 (dC, dI) cA [.ref (ad 15), .int a1, .int a2] (wA ad cA) u sz (fun w1 => w1 = w) := by
  refine v_metV (own := R_Md) [some (.ref (ad 15)), some (.int a1), some (.int a2), none, none] rfl (by decide) (Nat.le_of_ble_eq_true rfl) rfl rfl ?_
  intro p e s m args below meth c A Q ret
  unfold f_Md_raise at h
  refine v_aload_n d_Md_raise_0 rfl rfl ?_
  refine vg_Md_entryOf d_Md_raise_1 rfl ?_
  refine v_iload_n d_Md_raise_4 rfl rfl ?_
  obtain ⟨g1, h⟩ := gd_inv h
  refine v_ald 17 (wA_17 ad cA _) d_Md_raise_5 g1 rfl ?_
  refine v_istore_n (lo' := [_, _, _, _, none]) d_Md_raise_6 rfl (by decide) rfl ?_
  refine v_aload_n d_Md_raise_7 rfl rfl ?_
  refine vg_Md_ownerOf d_Md_raise_8 rfl ?_
  refine v_iload_n d_Md_raise_11 rfl rfl ?_
  obtain ⟨g2, h⟩ := gd_inv h
  refine v_ald 16 (wA_16 ad cA _) d_Md_raise_12 g2 rfl ?_
  refine v_istore (lo' := [_, _, _, _, _]) d_Md_raise_13 rfl (by decide) rfl ?_
  refine v_iload_n d_Md_raise_15 rfl rfl ?_
  refine v_iload_n d_Md_raise_16 rfl rfl ?_
  refine v_icmp_le 56 d_Md_raise_17 (by decide) rfl (fun c15 => ?_) (fun c15 => ?_)
  · replace h := (if_pos c15).symm.trans h
    obtain ⟨-, e2⟩ := rt_inv h
    exact ret _ _ _ e2 d_Md_raise_56
  · replace h := (if_neg c15).symm.trans h
    refine v_aload_n d_Md_raise_20 rfl rfl ?_
    refine vg_Md_low d_Md_raise_21 rfl ?_
    refine v_iload d_Md_raise_24 rfl rfl ?_
    refine v_iload_n d_Md_raise_26 rfl rfl ?_
    refine v_aload_n d_Md_raise_27 rfl rfl ?_
    refine vg_Md_low d_Md_raise_28 rfl ?_
    refine v_iload d_Md_raise_31 rfl rfl ?_
    obtain ⟨g3, h⟩ := gd_inv h
    refine v_ald 22 (wA_22 ad cA _) d_Md_raise_33 g3 rfl ?_
    obtain ⟨J48, eJ48, h⟩ := jn_inv h
    have V48 : ∀ (x4 x5 s6 s7 : Int32) (u8 : Mem), J48 x4 x5 s6 s7 u8 = some (r, w) → VJ p l e 0 0 0 0 s m args below meth c 0 0 Q A b_Md_raise 5 R_Md (dC, dI) cA (wA ad cA) 48 [some (.ref (ad 15)), some (.int x4), some (.int x5), none, none] [.int s6, .int s7, .ref (ad 22)] u8 := by
      intro x4 x5 s6 s7 u8 h
      rw [eJ48] at h
      obtain ⟨g9, h⟩ := gd_inv h
      obtain ⟨u10, eu10, h⟩ := jn_inv h
      refine v_ast 22 (wA_22 ad cA _) (ws_22 ad cA _ _ _) eu10 d_Md_raise_48 g9 rfl ?_
      refine v_aload_n d_Md_raise_49 rfl rfl ?_
      refine vg_Md_entryOf d_Md_raise_50 rfl ?_
      refine v_iload_n d_Md_raise_53 rfl rfl ?_
      refine v_iload_n d_Md_raise_54 rfl rfl ?_
      obtain ⟨g11, h⟩ := gd_inv h
      obtain ⟨u12, eu12, h⟩ := jn_inv h
      refine v_ast 17 (wA_17 ad cA _) (ws_17 ad cA _ _ _) eu12 d_Md_raise_55 g11 rfl ?_
      obtain ⟨-, e2⟩ := rt_inv h
      exact ret _ _ _ e2 d_Md_raise_56
    clear eJ48
    refine v_icmp_ge 41 d_Md_raise_34 (by decide) rfl (fun c14 => ?_) (fun c14 => ?_)
    · replace h := (if_pos c14).symm.trans h
      refine v_aload_n d_Md_raise_41 rfl rfl ?_
      refine vg_Md_low d_Md_raise_42 rfl ?_
      refine v_iload d_Md_raise_45 rfl rfl ?_
      obtain ⟨g13, h⟩ := gd_inv h
      refine v_ald 22 (wA_22 ad cA _) d_Md_raise_47 g13 rfl ?_
      refine v_drop 3 (lo' := [_, _, _, none, _]) rfl ?_
      refine v_drop 4 (lo' := [_, _, _, none, none]) rfl ?_
      exact V48 _ _ _ _ _ h
    · replace h := (if_neg c14).symm.trans h
      refine v_iload_n d_Md_raise_37 rfl rfl ?_
      refine v_goto 48 d_Md_raise_38 (by decide) ?_
      refine v_drop 3 (lo' := [_, _, _, none, _]) rfl ?_
      refine v_drop 4 (lo' := [_, _, _, none, none]) rfl ?_
      exact V48 _ _ _ _ _ h
theorem vc_Md_Md_raise {p : Program} {l : Launch} {e : Env} {fr rc rs rl : Nat} {s : State} {m : MethodId} {args : Array Value} {below : List Frame} {meth : Method} {c : Code} {cells slots : Nat} {Q : State → Prop} {A : Nat → Prop} {cc : ByteArray} {nL : Nat} {dC : Nat → ClassId} {dI : Nat → Nat → Nat} {cA : ClassId} {ad : Nat → Nat} {pc q : Nat} {lo : List (Option Value)} {rest : List Value} {u w : Mem} {r : Int32} {N : Nat} {b0 b1 : Int32} (h : f_Md_raise N b0 b1 u = some (r, w)) (hfr : 0 + 1 ≤ fr) (hrl : 8 + (5 + 11) + 0 ≤ rl) (hrm : (rest.map fun v => v.category).sum ≤ 8) (hd : decode cc pc = .ok (.invokevirtual 53, 3)) (hq : pc + 3 = q) (k : VJ p l e fr rc rs rl s m args below meth c cells slots Q A cc nL R_Md (dC, dI) cA (wA ad cA) q lo rest w) : VJ p l e fr rc rs rl s m args below meth c cells slots Q A cc nL R_Md (dC, dI) cA (wA ad cA) pc lo (.int b1 :: .int b0 :: .ref (ad 15) :: rest) u :=
  v_callVV (As := [.int b0, .int b1]) (rest := rest) (fun sz => c_Md_raise l dC dI ad cA sz N b0 b1 u r w h) tw_453 tw_455 tw_17 15 (wA_15 ad cA u) rfl rfl tw_456 tw_28 2 rfl (by decide +kernel) hfr hrl rfl hrm hd hq (fun w1 hE => by subst hE; exact k)
theorem d_Md_arrive_0 : decode b_Md_arrive 0 = .ok (.aload_n 0, 1) := by decide +kernel
theorem d_Md_arrive_1 : decode b_Md_arrive 1 = .ok (.iload_n 1, 1) := by decide +kernel
theorem d_Md_arrive_2 : decode b_Md_arrive 2 = .ok (.invokevirtual 46, 3) := by decide +kernel
theorem d_Md_arrive_5 : decode b_Md_arrive 5 = .ok (.ifCond .ne 4, 3) := by decide +kernel
theorem d_Md_arrive_8 : decode b_Md_arrive 8 = .ok (.return_, 1) := by decide +kernel
theorem d_Md_arrive_9 : decode b_Md_arrive 9 = .ok (.aload_n 0, 1) := by decide +kernel
theorem d_Md_arrive_10 : decode b_Md_arrive 10 = .ok (.getfield 7, 3) := by decide +kernel
theorem d_Md_arrive_13 : decode b_Md_arrive 13 = .ok (.iload_n 1, 1) := by decide +kernel
theorem d_Md_arrive_14 : decode b_Md_arrive 14 = .ok (.iaload, 1) := by decide +kernel
theorem d_Md_arrive_15 : decode b_Md_arrive 15 = .ok (.istore_n 3, 1) := by decide +kernel
theorem d_Md_arrive_16 : decode b_Md_arrive 16 = .ok (.iload_n 3, 1) := by decide +kernel
theorem d_Md_arrive_17 : decode b_Md_arrive 17 = .ok (.iload_n 2, 1) := by decide +kernel
theorem d_Md_arrive_18 : decode b_Md_arrive 18 = .ok (.if_icmp .eq 17, 3) := by decide +kernel
theorem d_Md_arrive_21 : decode b_Md_arrive 21 = .ok (.aload_n 0, 1) := by decide +kernel
theorem d_Md_arrive_22 : decode b_Md_arrive 22 = .ok (.getfield 22, 3) := by decide +kernel
theorem d_Md_arrive_25 : decode b_Md_arrive 25 = .ok (.iconst 3, 1) := by decide +kernel
theorem d_Md_arrive_26 : decode b_Md_arrive 26 = .ok (.iload_n 1, 1) := by decide +kernel
theorem d_Md_arrive_27 : decode b_Md_arrive 27 = .ok (.imul, 1) := by decide +kernel
theorem d_Md_arrive_28 : decode b_Md_arrive 28 = .ok (.iload_n 2, 1) := by decide +kernel
theorem d_Md_arrive_29 : decode b_Md_arrive 29 = .ok (.iadd, 1) := by decide +kernel
theorem d_Md_arrive_30 : decode b_Md_arrive 30 = .ok (.aload_n 0, 1) := by decide +kernel
theorem d_Md_arrive_31 : decode b_Md_arrive 31 = .ok (.getfield 50, 3) := by decide +kernel
theorem d_Md_arrive_34 : decode b_Md_arrive 34 = .ok (.iastore, 1) := by decide +kernel
theorem d_Md_arrive_35 : decode b_Md_arrive 35 = .ok (.aload_n 0, 1) := by decide +kernel
theorem d_Md_arrive_36 : decode b_Md_arrive 36 = .ok (.getfield 13, 3) := by decide +kernel
theorem d_Md_arrive_39 : decode b_Md_arrive 39 = .ok (.iload_n 1, 1) := by decide +kernel
theorem d_Md_arrive_40 : decode b_Md_arrive 40 = .ok (.iaload, 1) := by decide +kernel
theorem d_Md_arrive_41 : decode b_Md_arrive 41 = .ok (.ifCond .lt 15, 3) := by decide +kernel
theorem d_Md_arrive_44 : decode b_Md_arrive 44 = .ok (.aload_n 0, 1) := by decide +kernel
theorem d_Md_arrive_45 : decode b_Md_arrive 45 = .ok (.iload_n 1, 1) := by decide +kernel
theorem d_Md_arrive_46 : decode b_Md_arrive 46 = .ok (.aload_n 0, 1) := by decide +kernel
theorem d_Md_arrive_47 : decode b_Md_arrive 47 = .ok (.getfield 50, 3) := by decide +kernel
theorem d_Md_arrive_50 : decode b_Md_arrive 50 = .ok (.invokevirtual 53, 3) := by decide +kernel
theorem d_Md_arrive_53 : decode b_Md_arrive 53 = .ok (.goto 45, 3) := by decide +kernel
theorem d_Md_arrive_56 : decode b_Md_arrive 56 = .ok (.aload_n 0, 1) := by decide +kernel
theorem d_Md_arrive_57 : decode b_Md_arrive 57 = .ok (.getfield 13, 3) := by decide +kernel
theorem d_Md_arrive_60 : decode b_Md_arrive 60 = .ok (.iload_n 1, 1) := by decide +kernel
theorem d_Md_arrive_61 : decode b_Md_arrive 61 = .ok (.aload_n 0, 1) := by decide +kernel
theorem d_Md_arrive_62 : decode b_Md_arrive 62 = .ok (.getfield 50, 3) := by decide +kernel
theorem d_Md_arrive_65 : decode b_Md_arrive 65 = .ok (.iastore, 1) := by decide +kernel
theorem d_Md_arrive_66 : decode b_Md_arrive 66 = .ok (.aload_n 0, 1) := by decide +kernel
theorem d_Md_arrive_67 : decode b_Md_arrive 67 = .ok (.getfield 28, 3) := by decide +kernel
theorem d_Md_arrive_70 : decode b_Md_arrive 70 = .ok (.iload_n 3, 1) := by decide +kernel
theorem d_Md_arrive_71 : decode b_Md_arrive 71 = .ok (.aload_n 0, 1) := by decide +kernel
theorem d_Md_arrive_72 : decode b_Md_arrive 72 = .ok (.getfield 57, 3) := by decide +kernel
theorem d_Md_arrive_75 : decode b_Md_arrive 75 = .ok (.aload_n 0, 1) := by decide +kernel
theorem d_Md_arrive_76 : decode b_Md_arrive 76 = .ok (.getfield 28, 3) := by decide +kernel
theorem d_Md_arrive_79 : decode b_Md_arrive 79 = .ok (.iload_n 3, 1) := by decide +kernel
theorem d_Md_arrive_80 : decode b_Md_arrive 80 = .ok (.iaload, 1) := by decide +kernel
theorem d_Md_arrive_81 : decode b_Md_arrive 81 = .ok (.if_icmp .ge 10, 3) := by decide +kernel
theorem d_Md_arrive_84 : decode b_Md_arrive 84 = .ok (.aload_n 0, 1) := by decide +kernel
theorem d_Md_arrive_85 : decode b_Md_arrive 85 = .ok (.getfield 57, 3) := by decide +kernel
theorem d_Md_arrive_88 : decode b_Md_arrive 88 = .ok (.goto 9, 3) := by decide +kernel
theorem d_Md_arrive_91 : decode b_Md_arrive 91 = .ok (.aload_n 0, 1) := by decide +kernel
theorem d_Md_arrive_92 : decode b_Md_arrive 92 = .ok (.getfield 28, 3) := by decide +kernel
theorem d_Md_arrive_95 : decode b_Md_arrive 95 = .ok (.iload_n 3, 1) := by decide +kernel
theorem d_Md_arrive_96 : decode b_Md_arrive 96 = .ok (.iaload, 1) := by decide +kernel
theorem d_Md_arrive_97 : decode b_Md_arrive 97 = .ok (.iastore, 1) := by decide +kernel
theorem d_Md_arrive_98 : decode b_Md_arrive 98 = .ok (.return_, 1) := by decide +kernel
set_option maxHeartbeats 4000000 in
set_option maxRecDepth 100000 in
theorem c_Md_arrive (l : Launch) (dC : Nat → ClassId) (dI : Nat → Nat → Nat) (ad : Nat → Nat) (cA : ClassId) (sz : Nat) (N : Nat) (a1 a2 : Int32) (u : Mem) (r : Int32) (w : Mem) (h : f_Md_arrive N a1 a2 u = some (r, w)) : CtV l y_Md_arrive (Cond.code y_Md_arrive b_Md_arrive 4 none :: lw_gd) 2 43 (dC, dI) cA [.ref (ad 15), .int a1, .int a2] (wA ad cA) u sz (fun w1 => w1 = w) := by
  refine v_metV (own := R_Md) [some (.ref (ad 15)), some (.int a1), some (.int a2), none] rfl (by decide) (Nat.le_of_ble_eq_true rfl) rfl rfl ?_
  intro p e s m args below meth c A Q ret
  unfold f_Md_arrive at h
  refine v_aload_n d_Md_arrive_0 rfl rfl ?_
  refine v_iload_n d_Md_arrive_1 rfl rfl ?_
  obtain ⟨y1, u2, hc3, h⟩ := bd_inv h
  refine vc_Md_Md_there hc3 (Nat.le_of_ble_eq_true rfl) (Nat.le_of_ble_eq_true rfl) (Nat.le_of_ble_eq_true rfl) d_Md_arrive_2 rfl ?_
  refine v_if_ne 9 d_Md_arrive_5 (by decide) rfl (fun c25 => ?_) (fun c25 => ?_)
  · replace h := (if_pos c25).symm.trans h
    obtain ⟨-, e2⟩ := rt_inv h
    exact ret _ _ _ e2 d_Md_arrive_8
  · replace h := (if_neg c25).symm.trans h
    refine v_aload_n d_Md_arrive_9 rfl rfl ?_
    refine vg_Md_ownerOf d_Md_arrive_10 rfl ?_
    refine v_iload_n d_Md_arrive_13 rfl rfl ?_
    obtain ⟨g4, h⟩ := gd_inv h
    refine v_ald 16 (wA_16 ad cA _) d_Md_arrive_14 g4 rfl ?_
    refine v_istore_n (lo' := [_, _, _, _]) d_Md_arrive_15 rfl (by decide) rfl ?_
    refine v_iload_n d_Md_arrive_16 rfl rfl ?_
    refine v_iload_n d_Md_arrive_17 rfl rfl ?_
    obtain ⟨J35, eJ35, h⟩ := jn_inv h
    have V35 : ∀ (x5 x6 : Int32) (u7 : Mem), J35 x5 x6 u7 = some (r, w) → VJ p l e 2 0 0 43 s m args below meth c 0 0 Q A b_Md_arrive 4 R_Md (dC, dI) cA (wA ad cA) 35 [some (.ref (ad 15)), some (.int x5), none, some (.int x6)] [] u7 := by
      intro x5 x6 u7 h
      rw [eJ35] at h
      refine v_aload_n d_Md_arrive_35 rfl rfl ?_
      refine vg_Md_entryOf d_Md_arrive_36 rfl ?_
      refine v_iload_n d_Md_arrive_39 rfl rfl ?_
      obtain ⟨g8, h⟩ := gd_inv h
      refine v_ald 17 (wA_17 ad cA _) d_Md_arrive_40 g8 rfl ?_
      refine v_if_lt 56 d_Md_arrive_41 (by decide) rfl (fun c21 => ?_) (fun c21 => ?_)
      · replace h := (if_pos c21).symm.trans h
        refine v_aload_n d_Md_arrive_56 rfl rfl ?_
        refine vg_Md_entryOf d_Md_arrive_57 rfl ?_
        refine v_iload_n d_Md_arrive_60 rfl rfl ?_
        refine v_aload_n d_Md_arrive_61 rfl rfl ?_
        refine vg_Md_clock d_Md_arrive_62 rfl ?_
        obtain ⟨g9, h⟩ := gd_inv h
        obtain ⟨u10, eu10, h⟩ := jn_inv h
        refine v_ast 17 (wA_17 ad cA _) (ws_17 ad cA _ _ _) eu10 d_Md_arrive_65 g9 rfl ?_
        refine v_aload_n d_Md_arrive_66 rfl rfl ?_
        refine vg_Md_low d_Md_arrive_67 rfl ?_
        refine v_iload_n d_Md_arrive_70 rfl rfl ?_
        refine v_aload_n d_Md_arrive_71 rfl rfl ?_
        refine vg_Md_limit d_Md_arrive_72 rfl ?_
        refine v_aload_n d_Md_arrive_75 rfl rfl ?_
        refine vg_Md_low d_Md_arrive_76 rfl ?_
        refine v_iload_n d_Md_arrive_79 rfl rfl ?_
        obtain ⟨g11, h⟩ := gd_inv h
        refine v_ald 22 (wA_22 ad cA _) d_Md_arrive_80 g11 rfl ?_
        refine v_icmp_ge 91 d_Md_arrive_81 (by decide) rfl (fun c17 => ?_) (fun c17 => ?_)
        · replace h := (if_pos c17).symm.trans h
          refine v_aload_n d_Md_arrive_91 rfl rfl ?_
          refine vg_Md_low d_Md_arrive_92 rfl ?_
          refine v_iload_n d_Md_arrive_95 rfl rfl ?_
          obtain ⟨g12, h⟩ := gd_inv h
          refine v_ald 22 (wA_22 ad cA _) d_Md_arrive_96 g12 rfl ?_
          obtain ⟨g13, h⟩ := gd_inv h
          obtain ⟨u14, eu14, h⟩ := jn_inv h
          refine v_ast 22 (wA_22 ad cA _) (ws_22 ad cA _ _ _) eu14 d_Md_arrive_97 g13 rfl ?_
          obtain ⟨-, e2⟩ := rt_inv h
          exact ret _ _ _ e2 d_Md_arrive_98
        · replace h := (if_neg c17).symm.trans h
          refine v_aload_n d_Md_arrive_84 rfl rfl ?_
          refine vg_Md_limit d_Md_arrive_85 rfl ?_
          refine v_goto 97 d_Md_arrive_88 (by decide) ?_
          obtain ⟨g15, h⟩ := gd_inv h
          obtain ⟨u16, eu16, h⟩ := jn_inv h
          refine v_ast 22 (wA_22 ad cA _) (ws_22 ad cA _ _ _) eu16 d_Md_arrive_97 g15 rfl ?_
          obtain ⟨-, e2⟩ := rt_inv h
          exact ret _ _ _ e2 d_Md_arrive_98
      · replace h := (if_neg c21).symm.trans h
        refine v_aload_n d_Md_arrive_44 rfl rfl ?_
        refine v_iload_n d_Md_arrive_45 rfl rfl ?_
        refine v_aload_n d_Md_arrive_46 rfl rfl ?_
        refine vg_Md_clock d_Md_arrive_47 rfl ?_
        obtain ⟨_y18, u19, hc20, h⟩ := bd_inv h
        refine vc_Md_Md_raise hc20 (Nat.le_of_ble_eq_true rfl) (Nat.le_of_ble_eq_true rfl) (Nat.le_of_ble_eq_true rfl) d_Md_arrive_50 rfl ?_
        refine v_goto 98 d_Md_arrive_53 (by decide) ?_
        obtain ⟨-, e2⟩ := rt_inv h
        exact ret _ _ _ e2 d_Md_arrive_98
    clear eJ35
    refine v_icmp_eq 35 d_Md_arrive_18 (by decide) rfl (fun c24 => ?_) (fun c24 => ?_)
    · replace h := (if_pos c24).symm.trans h
      refine v_drop 2 (lo' := [_, _, none, _]) rfl ?_
      exact V35 _ _ _ h
    · replace h := (if_neg c24).symm.trans h
      refine v_aload_n d_Md_arrive_21 rfl rfl ?_
      refine vg_Md_exitOf d_Md_arrive_22 rfl ?_
      refine v_iconst 3 d_Md_arrive_25 (by decide) rfl ?_
      refine v_iload_n d_Md_arrive_26 rfl rfl ?_
      refine v_imul d_Md_arrive_27 rfl ?_
      refine v_iload_n d_Md_arrive_28 rfl rfl ?_
      refine v_iadd d_Md_arrive_29 rfl ?_
      refine v_aload_n d_Md_arrive_30 rfl rfl ?_
      refine vg_Md_clock d_Md_arrive_31 rfl ?_
      obtain ⟨g22, h⟩ := gd_inv h
      obtain ⟨u23, eu23, h⟩ := jn_inv h
      refine v_ast 20 (wA_20 ad cA _) (ws_20 ad cA _ _ _) eu23 d_Md_arrive_34 g22 rfl ?_
      refine v_drop 2 (lo' := [_, _, none, _]) rfl ?_
      exact V35 _ _ _ h
theorem vc_Md_Md_arrive {p : Program} {l : Launch} {e : Env} {fr rc rs rl : Nat} {s : State} {m : MethodId} {args : Array Value} {below : List Frame} {meth : Method} {c : Code} {cells slots : Nat} {Q : State → Prop} {A : Nat → Prop} {cc : ByteArray} {nL : Nat} {dC : Nat → ClassId} {dI : Nat → Nat → Nat} {cA : ClassId} {ad : Nat → Nat} {pc q : Nat} {lo : List (Option Value)} {rest : List Value} {u w : Mem} {r : Int32} {N : Nat} {b0 b1 : Int32} (h : f_Md_arrive N b0 b1 u = some (r, w)) (hfr : 2 + 1 ≤ fr) (hrl : 8 + (4 + 11) + 43 ≤ rl) (hrm : (rest.map fun v => v.category).sum ≤ 8) (hd : decode cc pc = .ok (.invokevirtual 68, 3)) (hq : pc + 3 = q) (k : VJ p l e fr rc rs rl s m args below meth c cells slots Q A cc nL R_Md (dC, dI) cA (wA ad cA) q lo rest w) : VJ p l e fr rc rs rl s m args below meth c cells slots Q A cc nL R_Md (dC, dI) cA (wA ad cA) pc lo (.int b1 :: .int b0 :: .ref (ad 15) :: rest) u :=
  v_callVV (As := [.int b0, .int b1]) (rest := rest) (fun sz => c_Md_arrive l dC dI ad cA sz N b0 b1 u r w h) tw_445 tw_447 tw_15 15 (wA_15 ad cA u) rfl rfl tw_448 tw_28 2 rfl (by decide +kernel) hfr hrl rfl hrm hd hq (fun w1 hE => by subst hE; exact k)
theorem d_Md_make_0 : decode b_Md_make 0 = .ok (.iload_n 1, 1) := by decide +kernel
theorem d_Md_make_1 : decode b_Md_make 1 = .ok (.iload_n 2, 1) := by decide +kernel
theorem d_Md_make_2 : decode b_Md_make 2 = .ok (.invokestatic 60, 3) := by decide +kernel
theorem d_Md_make_5 : decode b_Md_make 5 = .ok (.ifCond .eq 22, 3) := by decide +kernel
theorem d_Md_make_8 : decode b_Md_make 8 = .ok (.iload_n 3, 1) := by decide +kernel
theorem d_Md_make_9 : decode b_Md_make 9 = .ok (.iconst 0, 1) := by decide +kernel
theorem d_Md_make_10 : decode b_Md_make 10 = .ok (.iconst 2, 1) := by decide +kernel
theorem d_Md_make_11 : decode b_Md_make 11 = .ok (.invokestatic 38, 3) := by decide +kernel
theorem d_Md_make_14 : decode b_Md_make 14 = .ok (.ifCond .eq 13, 3) := by decide +kernel
theorem d_Md_make_17 : decode b_Md_make 17 = .ok (.aload_n 0, 1) := by decide +kernel
theorem d_Md_make_18 : decode b_Md_make 18 = .ok (.iload_n 3, 1) := by decide +kernel
theorem d_Md_make_19 : decode b_Md_make 19 = .ok (.invokevirtual 64, 3) := by decide +kernel
theorem d_Md_make_22 : decode b_Md_make 22 = .ok (.bipush 8, 2) := by decide +kernel
theorem d_Md_make_24 : decode b_Md_make 24 = .ok (.if_icmp .ne 5, 3) := by decide +kernel
theorem d_Md_make_27 : decode b_Md_make 27 = .ok (.iconst (-1), 1) := by decide +kernel
theorem d_Md_make_28 : decode b_Md_make 28 = .ok (.ireturn, 1) := by decide +kernel
theorem d_Md_make_29 : decode b_Md_make 29 = .ok (.aload_n 0, 1) := by decide +kernel
theorem d_Md_make_30 : decode b_Md_make 30 = .ok (.dup, 1) := by decide +kernel
theorem d_Md_make_31 : decode b_Md_make 31 = .ok (.getfield 50, 3) := by decide +kernel
theorem d_Md_make_34 : decode b_Md_make 34 = .ok (.iconst 1, 1) := by decide +kernel
theorem d_Md_make_35 : decode b_Md_make 35 = .ok (.iadd, 1) := by decide +kernel
theorem d_Md_make_36 : decode b_Md_make 36 = .ok (.putfield 50, 3) := by decide +kernel
theorem d_Md_make_39 : decode b_Md_make 39 = .ok (.aload_n 0, 1) := by decide +kernel
theorem d_Md_make_40 : decode b_Md_make 40 = .ok (.dup, 1) := by decide +kernel
theorem d_Md_make_41 : decode b_Md_make 41 = .ok (.getfield 42, 3) := by decide +kernel
theorem d_Md_make_44 : decode b_Md_make 44 = .ok (.iconst 1, 1) := by decide +kernel
theorem d_Md_make_45 : decode b_Md_make 45 = .ok (.iadd, 1) := by decide +kernel
theorem d_Md_make_46 : decode b_Md_make 46 = .ok (.putfield 42, 3) := by decide +kernel
theorem d_Md_make_49 : decode b_Md_make 49 = .ok (.aload_n 0, 1) := by decide +kernel
theorem d_Md_make_50 : decode b_Md_make 50 = .ok (.getfield 7, 3) := by decide +kernel
theorem d_Md_make_53 : decode b_Md_make 53 = .ok (.aload_n 0, 1) := by decide +kernel
theorem d_Md_make_54 : decode b_Md_make 54 = .ok (.getfield 42, 3) := by decide +kernel
theorem d_Md_make_57 : decode b_Md_make 57 = .ok (.iload_n 3, 1) := by decide +kernel
theorem d_Md_make_58 : decode b_Md_make 58 = .ok (.iastore, 1) := by decide +kernel
theorem d_Md_make_59 : decode b_Md_make 59 = .ok (.aload_n 0, 1) := by decide +kernel
theorem d_Md_make_60 : decode b_Md_make 60 = .ok (.getfield 13, 3) := by decide +kernel
theorem d_Md_make_63 : decode b_Md_make 63 = .ok (.aload_n 0, 1) := by decide +kernel
theorem d_Md_make_64 : decode b_Md_make 64 = .ok (.getfield 42, 3) := by decide +kernel
theorem d_Md_make_67 : decode b_Md_make 67 = .ok (.iconst (-1), 1) := by decide +kernel
theorem d_Md_make_68 : decode b_Md_make 68 = .ok (.iastore, 1) := by decide +kernel
theorem d_Md_make_69 : decode b_Md_make 69 = .ok (.aload_n 0, 1) := by decide +kernel
theorem d_Md_make_70 : decode b_Md_make 70 = .ok (.getfield 19, 3) := by decide +kernel
theorem d_Md_make_73 : decode b_Md_make 73 = .ok (.iconst 3, 1) := by decide +kernel
theorem d_Md_make_74 : decode b_Md_make 74 = .ok (.iload_n 1, 1) := by decide +kernel
theorem d_Md_make_75 : decode b_Md_make 75 = .ok (.imul, 1) := by decide +kernel
theorem d_Md_make_76 : decode b_Md_make 76 = .ok (.iload_n 2, 1) := by decide +kernel
theorem d_Md_make_77 : decode b_Md_make 77 = .ok (.iadd, 1) := by decide +kernel
theorem d_Md_make_78 : decode b_Md_make 78 = .ok (.aload_n 0, 1) := by decide +kernel
theorem d_Md_make_79 : decode b_Md_make 79 = .ok (.getfield 42, 3) := by decide +kernel
theorem d_Md_make_82 : decode b_Md_make 82 = .ok (.iastore, 1) := by decide +kernel
theorem d_Md_make_83 : decode b_Md_make 83 = .ok (.iload_n 3, 1) := by decide +kernel
theorem d_Md_make_84 : decode b_Md_make 84 = .ok (.iload_n 1, 1) := by decide +kernel
theorem d_Md_make_85 : decode b_Md_make 85 = .ok (.if_icmp .eq 12, 3) := by decide +kernel
theorem d_Md_make_88 : decode b_Md_make 88 = .ok (.aload_n 0, 1) := by decide +kernel
theorem d_Md_make_89 : decode b_Md_make 89 = .ok (.aload_n 0, 1) := by decide +kernel
theorem d_Md_make_90 : decode b_Md_make 90 = .ok (.getfield 42, 3) := by decide +kernel
theorem d_Md_make_93 : decode b_Md_make 93 = .ok (.iload_n 1, 1) := by decide +kernel
theorem d_Md_make_94 : decode b_Md_make 94 = .ok (.invokevirtual 68, 3) := by decide +kernel
theorem d_Md_make_97 : decode b_Md_make 97 = .ok (.aload_n 0, 1) := by decide +kernel
theorem d_Md_make_98 : decode b_Md_make 98 = .ok (.getfield 42, 3) := by decide +kernel
theorem d_Md_make_101 : decode b_Md_make 101 = .ok (.ireturn, 1) := by decide +kernel
set_option maxHeartbeats 4000000 in
set_option maxRecDepth 100000 in
theorem c_Md_make (l : Launch) (dC : Nat → ClassId) (dI : Nat → Nat → Nat) (ad : Nat → Nat) (cA : ClassId) (sz : Nat) (N : Nat) (a1 a2 a3 : Int32) (u : Mem) (r : Int32) (w : Mem) (h : f_Md_make N a1 a2 a3 u = some (r, w)) : CtI l y_Md_make (Cond.code y_Md_make b_Md_make 4 (some .int) :: lw_gd) 3 66 (dC, dI) cA [.ref (ad 15), .int a1, .int a2, .int a3] (wA ad cA) u sz (fun v w1 => v = r ∧ w1 = w) := by
  refine v_metI (own := R_Md) [some (.ref (ad 15)), some (.int a1), some (.int a2), some (.int a3)] rfl (by decide) (Nat.le_of_ble_eq_true rfl) rfl rfl (fun v u h => rfl) ?_
  intro p e s m args below meth c A Q ret
  unfold f_Md_make at h
  refine v_iload_n d_Md_make_0 rfl rfl ?_
  refine v_iload_n d_Md_make_1 rfl rfl ?_
  obtain ⟨y1, u2, hc3, h⟩ := bd_inv h
  refine vc_Md_Md_isPlace hc3 (Nat.le_of_ble_eq_true rfl) (Nat.le_of_ble_eq_true rfl) (Nat.le_of_ble_eq_true rfl) d_Md_make_2 rfl ?_
  refine v_if_eq 27 d_Md_make_5 (by decide) rfl (fun c24 => ?_) (fun c24 => ?_)
  · replace h := (if_pos c24).symm.trans h
    refine v_iconst (-1) d_Md_make_27 (by decide) rfl ?_
    obtain ⟨e1, e2⟩ := rt_inv h
    exact ret _ _ _ _ ⟨e1, e2⟩ d_Md_make_28
  · replace h := (if_neg c24).symm.trans h
    refine v_iload_n d_Md_make_8 rfl rfl ?_
    refine v_iconst 0 d_Md_make_9 (by decide) rfl ?_
    refine v_iconst 2 d_Md_make_10 (by decide) rfl ?_
    obtain ⟨y4, u5, hc6, h⟩ := bd_inv h
    refine vc_Md_Md_within hc6 (Nat.le_of_ble_eq_true rfl) (Nat.le_of_ble_eq_true rfl) (Nat.le_of_ble_eq_true rfl) d_Md_make_11 rfl ?_
    refine v_if_eq 27 d_Md_make_14 (by decide) rfl (fun c23 => ?_) (fun c23 => ?_)
    · replace h := (if_pos c23).symm.trans h
      refine v_iconst (-1) d_Md_make_27 (by decide) rfl ?_
      obtain ⟨e1, e2⟩ := rt_inv h
      exact ret _ _ _ _ ⟨e1, e2⟩ d_Md_make_28
    · replace h := (if_neg c23).symm.trans h
      refine v_aload_n d_Md_make_17 rfl rfl ?_
      refine v_iload_n d_Md_make_18 rfl rfl ?_
      obtain ⟨y7, u8, hc9, h⟩ := bd_inv h
      refine vc_Md_Md_objects hc9 (Nat.le_of_ble_eq_true rfl) (Nat.le_of_ble_eq_true rfl) (Nat.le_of_ble_eq_true rfl) d_Md_make_19 rfl ?_
      refine v_bipush 8 d_Md_make_22 (by decide) rfl ?_
      refine v_icmp_ne 29 d_Md_make_24 (by decide) rfl (fun c22 => ?_) (fun c22 => ?_)
      · replace h := (if_pos c22).symm.trans h
        refine v_iconst (-1) d_Md_make_27 (by decide) rfl ?_
        obtain ⟨e1, e2⟩ := rt_inv h
        exact ret _ _ _ _ ⟨e1, e2⟩ d_Md_make_28
      · replace h := (if_neg c22).symm.trans h
        refine v_aload_n d_Md_make_29 rfl rfl ?_
        refine v_dup d_Md_make_30 rfl rfl ?_
        refine vg_Md_clock d_Md_make_31 rfl ?_
        refine v_iconst 1 d_Md_make_34 (by decide) rfl ?_
        refine v_iadd d_Md_make_35 rfl ?_
        obtain ⟨u10, eu10, h⟩ := jn_inv h
        refine vp_Md_clock eu10 d_Md_make_36 rfl ?_
        refine v_aload_n d_Md_make_39 rfl rfl ?_
        refine v_dup d_Md_make_40 rfl rfl ?_
        refine vg_Md_made d_Md_make_41 rfl ?_
        refine v_iconst 1 d_Md_make_44 (by decide) rfl ?_
        refine v_iadd d_Md_make_45 rfl ?_
        obtain ⟨u11, eu11, h⟩ := jn_inv h
        refine vp_Md_made eu11 d_Md_make_46 rfl ?_
        refine v_aload_n d_Md_make_49 rfl rfl ?_
        refine vg_Md_ownerOf d_Md_make_50 rfl ?_
        refine v_aload_n d_Md_make_53 rfl rfl ?_
        refine vg_Md_made d_Md_make_54 rfl ?_
        refine v_iload_n d_Md_make_57 rfl rfl ?_
        obtain ⟨g12, h⟩ := gd_inv h
        obtain ⟨u13, eu13, h⟩ := jn_inv h
        refine v_ast 16 (wA_16 ad cA _) (ws_16 ad cA _ _ _) eu13 d_Md_make_58 g12 rfl ?_
        refine v_aload_n d_Md_make_59 rfl rfl ?_
        refine vg_Md_entryOf d_Md_make_60 rfl ?_
        refine v_aload_n d_Md_make_63 rfl rfl ?_
        refine vg_Md_made d_Md_make_64 rfl ?_
        refine v_iconst (-1) d_Md_make_67 (by decide) rfl ?_
        obtain ⟨g14, h⟩ := gd_inv h
        obtain ⟨u15, eu15, h⟩ := jn_inv h
        refine v_ast 17 (wA_17 ad cA _) (ws_17 ad cA _ _ _) eu15 d_Md_make_68 g14 rfl ?_
        refine v_aload_n d_Md_make_69 rfl rfl ?_
        refine vg_Md_rootOf d_Md_make_70 rfl ?_
        refine v_iconst 3 d_Md_make_73 (by decide) rfl ?_
        refine v_iload_n d_Md_make_74 rfl rfl ?_
        refine v_imul d_Md_make_75 rfl ?_
        refine v_iload_n d_Md_make_76 rfl rfl ?_
        refine v_iadd d_Md_make_77 rfl ?_
        refine v_aload_n d_Md_make_78 rfl rfl ?_
        refine vg_Md_made d_Md_make_79 rfl ?_
        obtain ⟨g16, h⟩ := gd_inv h
        obtain ⟨u17, eu17, h⟩ := jn_inv h
        refine v_ast 19 (wA_19 ad cA _) (ws_19 ad cA _ _ _) eu17 d_Md_make_82 g16 rfl ?_
        refine v_iload_n d_Md_make_83 rfl rfl ?_
        refine v_iload_n d_Md_make_84 rfl rfl ?_
        refine v_icmp_eq 97 d_Md_make_85 (by decide) rfl (fun c21 => ?_) (fun c21 => ?_)
        · replace h := (if_pos c21).symm.trans h
          refine v_aload_n d_Md_make_97 rfl rfl ?_
          refine vg_Md_made d_Md_make_98 rfl ?_
          obtain ⟨e1, e2⟩ := rt_inv h
          exact ret _ _ _ _ ⟨e1, e2⟩ d_Md_make_101
        · replace h := (if_neg c21).symm.trans h
          refine v_aload_n d_Md_make_88 rfl rfl ?_
          refine v_aload_n d_Md_make_89 rfl rfl ?_
          refine vg_Md_made d_Md_make_90 rfl ?_
          refine v_iload_n d_Md_make_93 rfl rfl ?_
          obtain ⟨_y18, u19, hc20, h⟩ := bd_inv h
          refine vc_Md_Md_arrive hc20 (Nat.le_of_ble_eq_true rfl) (Nat.le_of_ble_eq_true rfl) (Nat.le_of_ble_eq_true rfl) d_Md_make_94 rfl ?_
          refine v_aload_n d_Md_make_97 rfl rfl ?_
          refine vg_Md_made d_Md_make_98 rfl ?_
          obtain ⟨e1, e2⟩ := rt_inv h
          exact ret _ _ _ _ ⟨e1, e2⟩ d_Md_make_101
theorem vc_La_Md_make {p : Program} {l : Launch} {e : Env} {fr rc rs rl : Nat} {s : State} {m : MethodId} {args : Array Value} {below : List Frame} {meth : Method} {c : Code} {cells slots : Nat} {Q : State → Prop} {A : Nat → Prop} {cc : ByteArray} {nL : Nat} {dC : Nat → ClassId} {dI : Nat → Nat → Nat} {cA : ClassId} {ad : Nat → Nat} {pc q : Nat} {lo : List (Option Value)} {rest : List Value} {u w : Mem} {r : Int32} {N : Nat} {b0 b1 b2 : Int32} (h : f_Md_make N b0 b1 b2 u = some (r, w)) (hfr : 3 + 1 ≤ fr) (hrl : 8 + (4 + 11) + 66 ≤ rl) (hrm : (rest.map fun v => v.category).sum ≤ 8) (hd : decode cc pc = .ok (.invokevirtual 17, 3)) (hq : pc + 3 = q) (k : VJ p l e fr rc rs rl s m args below meth c cells slots Q A cc nL R_La (dC, dI) cA (wA ad cA) q lo (.int r :: rest) w) : VJ p l e fr rc rs rl s m args below meth c cells slots Q A cc nL R_La (dC, dI) cA (wA ad cA) pc lo (.int b2 :: .int b1 :: .int b0 :: .ref (ad 15) :: rest) u :=
  v_callVI (As := [.int b0, .int b1, .int b2]) (rest := rest) (fun sz => c_Md_make l dC dI ad cA sz N b0 b1 b2 u r w h) tw_431 tw_432 tw_433 15 (wA_15 ad cA u) rfl rfl tw_434 tw_28 3 rfl (by decide +kernel) hfr hrl rfl hrm hd hq (fun v w1 hE => by obtain ⟨rfl, rfl⟩ := hE; exact k)
theorem d_Md_load_0 : decode b_Md_load 0 = .ok (.iload_n 1, 1) := by decide +kernel
theorem d_Md_load_1 : decode b_Md_load 1 = .ok (.iload_n 2, 1) := by decide +kernel
theorem d_Md_load_2 : decode b_Md_load 2 = .ok (.invokestatic 60, 3) := by decide +kernel
theorem d_Md_load_5 : decode b_Md_load 5 = .ok (.ifCond .eq 38, 3) := by decide +kernel
theorem d_Md_load_8 : decode b_Md_load 8 = .ok (.iload_n 1, 1) := by decide +kernel
theorem d_Md_load_9 : decode b_Md_load 9 = .ok (.iload 4, 2) := by decide +kernel
theorem d_Md_load_11 : decode b_Md_load 11 = .ok (.invokestatic 60, 3) := by decide +kernel
theorem d_Md_load_14 : decode b_Md_load 14 = .ok (.ifCond .eq 29, 3) := by decide +kernel
theorem d_Md_load_17 : decode b_Md_load 17 = .ok (.iload_n 3, 1) := by decide +kernel
theorem d_Md_load_18 : decode b_Md_load 18 = .ok (.iconst 0, 1) := by decide +kernel
theorem d_Md_load_19 : decode b_Md_load 19 = .ok (.iconst 1, 1) := by decide +kernel
theorem d_Md_load_20 : decode b_Md_load 20 = .ok (.invokestatic 38, 3) := by decide +kernel
theorem d_Md_load_23 : decode b_Md_load 23 = .ok (.ifCond .eq 20, 3) := by decide +kernel
theorem d_Md_load_26 : decode b_Md_load 26 = .ok (.aload_n 0, 1) := by decide +kernel
theorem d_Md_load_27 : decode b_Md_load 27 = .ok (.aload_n 0, 1) := by decide +kernel
theorem d_Md_load_28 : decode b_Md_load 28 = .ok (.getfield 19, 3) := by decide +kernel
theorem d_Md_load_31 : decode b_Md_load 31 = .ok (.iconst 3, 1) := by decide +kernel
theorem d_Md_load_32 : decode b_Md_load 32 = .ok (.iload_n 1, 1) := by decide +kernel
theorem d_Md_load_33 : decode b_Md_load 33 = .ok (.imul, 1) := by decide +kernel
theorem d_Md_load_34 : decode b_Md_load 34 = .ok (.iload_n 2, 1) := by decide +kernel
theorem d_Md_load_35 : decode b_Md_load 35 = .ok (.iadd, 1) := by decide +kernel
theorem d_Md_load_36 : decode b_Md_load 36 = .ok (.iaload, 1) := by decide +kernel
theorem d_Md_load_37 : decode b_Md_load 37 = .ok (.invokevirtual 46, 3) := by decide +kernel
theorem d_Md_load_40 : decode b_Md_load 40 = .ok (.ifCond .ne 5, 3) := by decide +kernel
theorem d_Md_load_43 : decode b_Md_load 43 = .ok (.iconst (-1), 1) := by decide +kernel
theorem d_Md_load_44 : decode b_Md_load 44 = .ok (.ireturn, 1) := by decide +kernel
theorem d_Md_load_45 : decode b_Md_load 45 = .ok (.aload_n 0, 1) := by decide +kernel
theorem d_Md_load_46 : decode b_Md_load 46 = .ok (.dup, 1) := by decide +kernel
theorem d_Md_load_47 : decode b_Md_load 47 = .ok (.getfield 50, 3) := by decide +kernel
theorem d_Md_load_50 : decode b_Md_load 50 = .ok (.iconst 1, 1) := by decide +kernel
theorem d_Md_load_51 : decode b_Md_load 51 = .ok (.iadd, 1) := by decide +kernel
theorem d_Md_load_52 : decode b_Md_load 52 = .ok (.putfield 50, 3) := by decide +kernel
theorem d_Md_load_55 : decode b_Md_load 55 = .ok (.aload_n 0, 1) := by decide +kernel
theorem d_Md_load_56 : decode b_Md_load 56 = .ok (.getfield 19, 3) := by decide +kernel
theorem d_Md_load_59 : decode b_Md_load 59 = .ok (.iconst 3, 1) := by decide +kernel
theorem d_Md_load_60 : decode b_Md_load 60 = .ok (.iload_n 1, 1) := by decide +kernel
theorem d_Md_load_61 : decode b_Md_load 61 = .ok (.imul, 1) := by decide +kernel
theorem d_Md_load_62 : decode b_Md_load 62 = .ok (.iload_n 2, 1) := by decide +kernel
theorem d_Md_load_63 : decode b_Md_load 63 = .ok (.iadd, 1) := by decide +kernel
theorem d_Md_load_64 : decode b_Md_load 64 = .ok (.iaload, 1) := by decide +kernel
theorem d_Md_load_65 : decode b_Md_load 65 = .ok (.istore 5, 2) := by decide +kernel
theorem d_Md_load_67 : decode b_Md_load 67 = .ok (.aload_n 0, 1) := by decide +kernel
theorem d_Md_load_68 : decode b_Md_load 68 = .ok (.getfield 16, 3) := by decide +kernel
theorem d_Md_load_71 : decode b_Md_load 71 = .ok (.iconst 2, 1) := by decide +kernel
theorem d_Md_load_72 : decode b_Md_load 72 = .ok (.iload 5, 2) := by decide +kernel
theorem d_Md_load_74 : decode b_Md_load 74 = .ok (.imul, 1) := by decide +kernel
theorem d_Md_load_75 : decode b_Md_load 75 = .ok (.iload_n 3, 1) := by decide +kernel
theorem d_Md_load_76 : decode b_Md_load 76 = .ok (.iadd, 1) := by decide +kernel
theorem d_Md_load_77 : decode b_Md_load 77 = .ok (.iaload, 1) := by decide +kernel
theorem d_Md_load_78 : decode b_Md_load 78 = .ok (.istore 6, 2) := by decide +kernel
theorem d_Md_load_80 : decode b_Md_load 80 = .ok (.aload_n 0, 1) := by decide +kernel
theorem d_Md_load_81 : decode b_Md_load 81 = .ok (.getfield 19, 3) := by decide +kernel
theorem d_Md_load_84 : decode b_Md_load 84 = .ok (.iconst 3, 1) := by decide +kernel
theorem d_Md_load_85 : decode b_Md_load 85 = .ok (.iload_n 1, 1) := by decide +kernel
theorem d_Md_load_86 : decode b_Md_load 86 = .ok (.imul, 1) := by decide +kernel
theorem d_Md_load_87 : decode b_Md_load 87 = .ok (.iload 4, 2) := by decide +kernel
theorem d_Md_load_89 : decode b_Md_load 89 = .ok (.iadd, 1) := by decide +kernel
theorem d_Md_load_90 : decode b_Md_load 90 = .ok (.iload 6, 2) := by decide +kernel
theorem d_Md_load_92 : decode b_Md_load 92 = .ok (.iastore, 1) := by decide +kernel
theorem d_Md_load_93 : decode b_Md_load 93 = .ok (.aload_n 0, 1) := by decide +kernel
theorem d_Md_load_94 : decode b_Md_load 94 = .ok (.getfield 7, 3) := by decide +kernel
theorem d_Md_load_97 : decode b_Md_load 97 = .ok (.iload 5, 2) := by decide +kernel
theorem d_Md_load_99 : decode b_Md_load 99 = .ok (.iaload, 1) := by decide +kernel
theorem d_Md_load_100 : decode b_Md_load 100 = .ok (.iload_n 1, 1) := by decide +kernel
theorem d_Md_load_101 : decode b_Md_load 101 = .ok (.if_icmp .eq 10, 3) := by decide +kernel
theorem d_Md_load_104 : decode b_Md_load 104 = .ok (.aload_n 0, 1) := by decide +kernel
theorem d_Md_load_105 : decode b_Md_load 105 = .ok (.iload 6, 2) := by decide +kernel
theorem d_Md_load_107 : decode b_Md_load 107 = .ok (.iload_n 1, 1) := by decide +kernel
theorem d_Md_load_108 : decode b_Md_load 108 = .ok (.invokevirtual 68, 3) := by decide +kernel
theorem d_Md_load_111 : decode b_Md_load 111 = .ok (.iload 6, 2) := by decide +kernel
theorem d_Md_load_113 : decode b_Md_load 113 = .ok (.ireturn, 1) := by decide +kernel
set_option maxHeartbeats 4000000 in
set_option maxRecDepth 100000 in
theorem c_Md_load (l : Launch) (dC : Nat → ClassId) (dI : Nat → Nat → Nat) (ad : Nat → Nat) (cA : ClassId) (sz : Nat) (N : Nat) (a1 a2 a3 a4 : Int32) (u : Mem) (r : Int32) (w : Mem) (h : f_Md_load N a1 a2 a3 a4 u = some (r, w)) : CtI l y_Md_load (Cond.code y_Md_load b_Md_load 7 (some .int) :: lw_gd) 3 66 (dC, dI) cA [.ref (ad 15), .int a1, .int a2, .int a3, .int a4] (wA ad cA) u sz (fun v w1 => v = r ∧ w1 = w) := by
  refine v_metI (own := R_Md) [some (.ref (ad 15)), some (.int a1), some (.int a2), some (.int a3), some (.int a4), none, none] rfl (by decide) (Nat.le_of_ble_eq_true rfl) rfl rfl (fun v u h => rfl) ?_
  intro p e s m args below meth c A Q ret
  unfold f_Md_load at h
  refine v_iload_n d_Md_load_0 rfl rfl ?_
  refine v_iload_n d_Md_load_1 rfl rfl ?_
  obtain ⟨y1, u2, hc3, h⟩ := bd_inv h
  refine vc_Md_Md_isPlace hc3 (Nat.le_of_ble_eq_true rfl) (Nat.le_of_ble_eq_true rfl) (Nat.le_of_ble_eq_true rfl) d_Md_load_2 rfl ?_
  refine v_if_eq 43 d_Md_load_5 (by decide) rfl (fun c27 => ?_) (fun c27 => ?_)
  · replace h := (if_pos c27).symm.trans h
    refine v_iconst (-1) d_Md_load_43 (by decide) rfl ?_
    obtain ⟨e1, e2⟩ := rt_inv h
    exact ret _ _ _ _ ⟨e1, e2⟩ d_Md_load_44
  · replace h := (if_neg c27).symm.trans h
    refine v_iload_n d_Md_load_8 rfl rfl ?_
    refine v_iload d_Md_load_9 rfl rfl ?_
    obtain ⟨y4, u5, hc6, h⟩ := bd_inv h
    refine vc_Md_Md_isPlace hc6 (Nat.le_of_ble_eq_true rfl) (Nat.le_of_ble_eq_true rfl) (Nat.le_of_ble_eq_true rfl) d_Md_load_11 rfl ?_
    refine v_if_eq 43 d_Md_load_14 (by decide) rfl (fun c26 => ?_) (fun c26 => ?_)
    · replace h := (if_pos c26).symm.trans h
      refine v_iconst (-1) d_Md_load_43 (by decide) rfl ?_
      obtain ⟨e1, e2⟩ := rt_inv h
      exact ret _ _ _ _ ⟨e1, e2⟩ d_Md_load_44
    · replace h := (if_neg c26).symm.trans h
      refine v_iload_n d_Md_load_17 rfl rfl ?_
      refine v_iconst 0 d_Md_load_18 (by decide) rfl ?_
      refine v_iconst 1 d_Md_load_19 (by decide) rfl ?_
      obtain ⟨y7, u8, hc9, h⟩ := bd_inv h
      refine vc_Md_Md_within hc9 (Nat.le_of_ble_eq_true rfl) (Nat.le_of_ble_eq_true rfl) (Nat.le_of_ble_eq_true rfl) d_Md_load_20 rfl ?_
      refine v_if_eq 43 d_Md_load_23 (by decide) rfl (fun c25 => ?_) (fun c25 => ?_)
      · replace h := (if_pos c25).symm.trans h
        refine v_iconst (-1) d_Md_load_43 (by decide) rfl ?_
        obtain ⟨e1, e2⟩ := rt_inv h
        exact ret _ _ _ _ ⟨e1, e2⟩ d_Md_load_44
      · replace h := (if_neg c25).symm.trans h
        refine v_aload_n d_Md_load_26 rfl rfl ?_
        refine v_aload_n d_Md_load_27 rfl rfl ?_
        refine vg_Md_rootOf d_Md_load_28 rfl ?_
        refine v_iconst 3 d_Md_load_31 (by decide) rfl ?_
        refine v_iload_n d_Md_load_32 rfl rfl ?_
        refine v_imul d_Md_load_33 rfl ?_
        refine v_iload_n d_Md_load_34 rfl rfl ?_
        refine v_iadd d_Md_load_35 rfl ?_
        obtain ⟨g10, h⟩ := gd_inv h
        refine v_ald 19 (wA_19 ad cA _) d_Md_load_36 g10 rfl ?_
        obtain ⟨y11, u12, hc13, h⟩ := bd_inv h
        refine vc_Md_Md_there hc13 (Nat.le_of_ble_eq_true rfl) (Nat.le_of_ble_eq_true rfl) (Nat.le_of_ble_eq_true rfl) d_Md_load_37 rfl ?_
        refine v_if_ne 45 d_Md_load_40 (by decide) rfl (fun c24 => ?_) (fun c24 => ?_)
        · replace h := (if_pos c24).symm.trans h
          refine v_iconst (-1) d_Md_load_43 (by decide) rfl ?_
          obtain ⟨e1, e2⟩ := rt_inv h
          exact ret _ _ _ _ ⟨e1, e2⟩ d_Md_load_44
        · replace h := (if_neg c24).symm.trans h
          refine v_aload_n d_Md_load_45 rfl rfl ?_
          refine v_dup d_Md_load_46 rfl rfl ?_
          refine vg_Md_clock d_Md_load_47 rfl ?_
          refine v_iconst 1 d_Md_load_50 (by decide) rfl ?_
          refine v_iadd d_Md_load_51 rfl ?_
          obtain ⟨u14, eu14, h⟩ := jn_inv h
          refine vp_Md_clock eu14 d_Md_load_52 rfl ?_
          refine v_aload_n d_Md_load_55 rfl rfl ?_
          refine vg_Md_rootOf d_Md_load_56 rfl ?_
          refine v_iconst 3 d_Md_load_59 (by decide) rfl ?_
          refine v_iload_n d_Md_load_60 rfl rfl ?_
          refine v_imul d_Md_load_61 rfl ?_
          refine v_iload_n d_Md_load_62 rfl rfl ?_
          refine v_iadd d_Md_load_63 rfl ?_
          obtain ⟨g15, h⟩ := gd_inv h
          refine v_ald 19 (wA_19 ad cA _) d_Md_load_64 g15 rfl ?_
          refine v_istore (lo' := [_, _, _, _, _, _, none]) d_Md_load_65 rfl (by decide) rfl ?_
          refine v_aload_n d_Md_load_67 rfl rfl ?_
          refine vg_Md_fieldOf d_Md_load_68 rfl ?_
          refine v_iconst 2 d_Md_load_71 (by decide) rfl ?_
          refine v_iload d_Md_load_72 rfl rfl ?_
          refine v_imul d_Md_load_74 rfl ?_
          refine v_iload_n d_Md_load_75 rfl rfl ?_
          refine v_iadd d_Md_load_76 rfl ?_
          obtain ⟨g16, h⟩ := gd_inv h
          refine v_ald 18 (wA_18 ad cA _) d_Md_load_77 g16 rfl ?_
          refine v_istore (lo' := [_, _, _, _, _, _, _]) d_Md_load_78 rfl (by decide) rfl ?_
          refine v_aload_n d_Md_load_80 rfl rfl ?_
          refine vg_Md_rootOf d_Md_load_81 rfl ?_
          refine v_iconst 3 d_Md_load_84 (by decide) rfl ?_
          refine v_iload_n d_Md_load_85 rfl rfl ?_
          refine v_imul d_Md_load_86 rfl ?_
          refine v_iload d_Md_load_87 rfl rfl ?_
          refine v_iadd d_Md_load_89 rfl ?_
          refine v_iload d_Md_load_90 rfl rfl ?_
          obtain ⟨g17, h⟩ := gd_inv h
          obtain ⟨u18, eu18, h⟩ := jn_inv h
          refine v_ast 19 (wA_19 ad cA _) (ws_19 ad cA _ _ _) eu18 d_Md_load_92 g17 rfl ?_
          refine v_aload_n d_Md_load_93 rfl rfl ?_
          refine vg_Md_ownerOf d_Md_load_94 rfl ?_
          refine v_iload d_Md_load_97 rfl rfl ?_
          obtain ⟨g19, h⟩ := gd_inv h
          refine v_ald 16 (wA_16 ad cA _) d_Md_load_99 g19 rfl ?_
          refine v_iload_n d_Md_load_100 rfl rfl ?_
          refine v_icmp_eq 111 d_Md_load_101 (by decide) rfl (fun c23 => ?_) (fun c23 => ?_)
          · replace h := (if_pos c23).symm.trans h
            refine v_iload d_Md_load_111 rfl rfl ?_
            obtain ⟨e1, e2⟩ := rt_inv h
            exact ret _ _ _ _ ⟨e1, e2⟩ d_Md_load_113
          · replace h := (if_neg c23).symm.trans h
            refine v_aload_n d_Md_load_104 rfl rfl ?_
            refine v_iload d_Md_load_105 rfl rfl ?_
            refine v_iload_n d_Md_load_107 rfl rfl ?_
            obtain ⟨_y20, u21, hc22, h⟩ := bd_inv h
            refine vc_Md_Md_arrive hc22 (Nat.le_of_ble_eq_true rfl) (Nat.le_of_ble_eq_true rfl) (Nat.le_of_ble_eq_true rfl) d_Md_load_108 rfl ?_
            refine v_iload d_Md_load_111 rfl rfl ?_
            obtain ⟨e1, e2⟩ := rt_inv h
            exact ret _ _ _ _ ⟨e1, e2⟩ d_Md_load_113
theorem vc_La_Md_load {p : Program} {l : Launch} {e : Env} {fr rc rs rl : Nat} {s : State} {m : MethodId} {args : Array Value} {below : List Frame} {meth : Method} {c : Code} {cells slots : Nat} {Q : State → Prop} {A : Nat → Prop} {cc : ByteArray} {nL : Nat} {dC : Nat → ClassId} {dI : Nat → Nat → Nat} {cA : ClassId} {ad : Nat → Nat} {pc q : Nat} {lo : List (Option Value)} {rest : List Value} {u w : Mem} {r : Int32} {N : Nat} {b0 b1 b2 b3 : Int32} (h : f_Md_load N b0 b1 b2 b3 u = some (r, w)) (hfr : 3 + 1 ≤ fr) (hrl : 8 + (7 + 11) + 66 ≤ rl) (hrm : (rest.map fun v => v.category).sum ≤ 8) (hd : decode cc pc = .ok (.invokevirtual 22, 3)) (hq : pc + 3 = q) (k : VJ p l e fr rc rs rl s m args below meth c cells slots Q A cc nL R_La (dC, dI) cA (wA ad cA) q lo (.int r :: rest) w) : VJ p l e fr rc rs rl s m args below meth c cells slots Q A cc nL R_La (dC, dI) cA (wA ad cA) pc lo (.int b3 :: .int b2 :: .int b1 :: .int b0 :: .ref (ad 15) :: rest) u :=
  v_callVI (As := [.int b0, .int b1, .int b2, .int b3]) (rest := rest) (fun sz => c_Md_load l dC dI ad cA sz N b0 b1 b2 b3 u r w h) tw_457 tw_458 tw_459 15 (wA_15 ad cA u) rfl rfl tw_460 tw_28 4 rfl (by decide +kernel) hfr hrl rfl hrm hd hq (fun v w1 hE => by obtain ⟨rfl, rfl⟩ := hE; exact k)
theorem d_Md_store_0 : decode b_Md_store 0 = .ok (.iload_n 1, 1) := by decide +kernel
theorem d_Md_store_1 : decode b_Md_store 1 = .ok (.iload_n 2, 1) := by decide +kernel
theorem d_Md_store_2 : decode b_Md_store 2 = .ok (.invokestatic 60, 3) := by decide +kernel
theorem d_Md_store_5 : decode b_Md_store 5 = .ok (.ifCond .eq 38, 3) := by decide +kernel
theorem d_Md_store_8 : decode b_Md_store 8 = .ok (.iload_n 1, 1) := by decide +kernel
theorem d_Md_store_9 : decode b_Md_store 9 = .ok (.iload 4, 2) := by decide +kernel
theorem d_Md_store_11 : decode b_Md_store 11 = .ok (.invokestatic 60, 3) := by decide +kernel
theorem d_Md_store_14 : decode b_Md_store 14 = .ok (.ifCond .eq 29, 3) := by decide +kernel
theorem d_Md_store_17 : decode b_Md_store 17 = .ok (.iload_n 3, 1) := by decide +kernel
theorem d_Md_store_18 : decode b_Md_store 18 = .ok (.iconst 0, 1) := by decide +kernel
theorem d_Md_store_19 : decode b_Md_store 19 = .ok (.iconst 1, 1) := by decide +kernel
theorem d_Md_store_20 : decode b_Md_store 20 = .ok (.invokestatic 38, 3) := by decide +kernel
theorem d_Md_store_23 : decode b_Md_store 23 = .ok (.ifCond .eq 20, 3) := by decide +kernel
theorem d_Md_store_26 : decode b_Md_store 26 = .ok (.aload_n 0, 1) := by decide +kernel
theorem d_Md_store_27 : decode b_Md_store 27 = .ok (.aload_n 0, 1) := by decide +kernel
theorem d_Md_store_28 : decode b_Md_store 28 = .ok (.getfield 19, 3) := by decide +kernel
theorem d_Md_store_31 : decode b_Md_store 31 = .ok (.iconst 3, 1) := by decide +kernel
theorem d_Md_store_32 : decode b_Md_store 32 = .ok (.iload_n 1, 1) := by decide +kernel
theorem d_Md_store_33 : decode b_Md_store 33 = .ok (.imul, 1) := by decide +kernel
theorem d_Md_store_34 : decode b_Md_store 34 = .ok (.iload_n 2, 1) := by decide +kernel
theorem d_Md_store_35 : decode b_Md_store 35 = .ok (.iadd, 1) := by decide +kernel
theorem d_Md_store_36 : decode b_Md_store 36 = .ok (.iaload, 1) := by decide +kernel
theorem d_Md_store_37 : decode b_Md_store 37 = .ok (.invokevirtual 46, 3) := by decide +kernel
theorem d_Md_store_40 : decode b_Md_store 40 = .ok (.ifCond .ne 5, 3) := by decide +kernel
theorem d_Md_store_43 : decode b_Md_store 43 = .ok (.iconst 0, 1) := by decide +kernel
theorem d_Md_store_44 : decode b_Md_store 44 = .ok (.ireturn, 1) := by decide +kernel
theorem d_Md_store_45 : decode b_Md_store 45 = .ok (.aload_n 0, 1) := by decide +kernel
theorem d_Md_store_46 : decode b_Md_store 46 = .ok (.dup, 1) := by decide +kernel
theorem d_Md_store_47 : decode b_Md_store 47 = .ok (.getfield 50, 3) := by decide +kernel
theorem d_Md_store_50 : decode b_Md_store 50 = .ok (.iconst 1, 1) := by decide +kernel
theorem d_Md_store_51 : decode b_Md_store 51 = .ok (.iadd, 1) := by decide +kernel
theorem d_Md_store_52 : decode b_Md_store 52 = .ok (.putfield 50, 3) := by decide +kernel
theorem d_Md_store_55 : decode b_Md_store 55 = .ok (.aload_n 0, 1) := by decide +kernel
theorem d_Md_store_56 : decode b_Md_store 56 = .ok (.getfield 19, 3) := by decide +kernel
theorem d_Md_store_59 : decode b_Md_store 59 = .ok (.iconst 3, 1) := by decide +kernel
theorem d_Md_store_60 : decode b_Md_store 60 = .ok (.iload_n 1, 1) := by decide +kernel
theorem d_Md_store_61 : decode b_Md_store 61 = .ok (.imul, 1) := by decide +kernel
theorem d_Md_store_62 : decode b_Md_store 62 = .ok (.iload_n 2, 1) := by decide +kernel
theorem d_Md_store_63 : decode b_Md_store 63 = .ok (.iadd, 1) := by decide +kernel
theorem d_Md_store_64 : decode b_Md_store 64 = .ok (.iaload, 1) := by decide +kernel
theorem d_Md_store_65 : decode b_Md_store 65 = .ok (.istore 5, 2) := by decide +kernel
theorem d_Md_store_67 : decode b_Md_store 67 = .ok (.aload_n 0, 1) := by decide +kernel
theorem d_Md_store_68 : decode b_Md_store 68 = .ok (.getfield 19, 3) := by decide +kernel
theorem d_Md_store_71 : decode b_Md_store 71 = .ok (.iconst 3, 1) := by decide +kernel
theorem d_Md_store_72 : decode b_Md_store 72 = .ok (.iload_n 1, 1) := by decide +kernel
theorem d_Md_store_73 : decode b_Md_store 73 = .ok (.imul, 1) := by decide +kernel
theorem d_Md_store_74 : decode b_Md_store 74 = .ok (.iload 4, 2) := by decide +kernel
theorem d_Md_store_76 : decode b_Md_store 76 = .ok (.iadd, 1) := by decide +kernel
theorem d_Md_store_77 : decode b_Md_store 77 = .ok (.iaload, 1) := by decide +kernel
theorem d_Md_store_78 : decode b_Md_store 78 = .ok (.istore 6, 2) := by decide +kernel
theorem d_Md_store_80 : decode b_Md_store 80 = .ok (.aload_n 0, 1) := by decide +kernel
theorem d_Md_store_81 : decode b_Md_store 81 = .ok (.getfield 16, 3) := by decide +kernel
theorem d_Md_store_84 : decode b_Md_store 84 = .ok (.iconst 2, 1) := by decide +kernel
theorem d_Md_store_85 : decode b_Md_store 85 = .ok (.iload 5, 2) := by decide +kernel
theorem d_Md_store_87 : decode b_Md_store 87 = .ok (.imul, 1) := by decide +kernel
theorem d_Md_store_88 : decode b_Md_store 88 = .ok (.iload_n 3, 1) := by decide +kernel
theorem d_Md_store_89 : decode b_Md_store 89 = .ok (.iadd, 1) := by decide +kernel
theorem d_Md_store_90 : decode b_Md_store 90 = .ok (.iload 6, 2) := by decide +kernel
theorem d_Md_store_92 : decode b_Md_store 92 = .ok (.iastore, 1) := by decide +kernel
theorem d_Md_store_93 : decode b_Md_store 93 = .ok (.aload_n 0, 1) := by decide +kernel
theorem d_Md_store_94 : decode b_Md_store 94 = .ok (.getfield 7, 3) := by decide +kernel
theorem d_Md_store_97 : decode b_Md_store 97 = .ok (.iload 5, 2) := by decide +kernel
theorem d_Md_store_99 : decode b_Md_store 99 = .ok (.iaload, 1) := by decide +kernel
theorem d_Md_store_100 : decode b_Md_store 100 = .ok (.iload_n 1, 1) := by decide +kernel
theorem d_Md_store_101 : decode b_Md_store 101 = .ok (.if_icmp .eq 16, 3) := by decide +kernel
theorem d_Md_store_104 : decode b_Md_store 104 = .ok (.aload_n 0, 1) := by decide +kernel
theorem d_Md_store_105 : decode b_Md_store 105 = .ok (.iload 6, 2) := by decide +kernel
theorem d_Md_store_107 : decode b_Md_store 107 = .ok (.aload_n 0, 1) := by decide +kernel
theorem d_Md_store_108 : decode b_Md_store 108 = .ok (.getfield 7, 3) := by decide +kernel
theorem d_Md_store_111 : decode b_Md_store 111 = .ok (.iload 5, 2) := by decide +kernel
theorem d_Md_store_113 : decode b_Md_store 113 = .ok (.iaload, 1) := by decide +kernel
theorem d_Md_store_114 : decode b_Md_store 114 = .ok (.invokevirtual 68, 3) := by decide +kernel
theorem d_Md_store_117 : decode b_Md_store 117 = .ok (.iconst 1, 1) := by decide +kernel
theorem d_Md_store_118 : decode b_Md_store 118 = .ok (.ireturn, 1) := by decide +kernel
set_option maxHeartbeats 4000000 in
set_option maxRecDepth 100000 in
theorem c_Md_store (l : Launch) (dC : Nat → ClassId) (dI : Nat → Nat → Nat) (ad : Nat → Nat) (cA : ClassId) (sz : Nat) (N : Nat) (a1 a2 a3 a4 : Int32) (u : Mem) (r : Int32) (w : Mem) (h : f_Md_store N a1 a2 a3 a4 u = some (r, w)) : CtI l y_Md_store (Cond.code y_Md_store b_Md_store 7 (some .boolean) :: lw_gd) 3 66 (dC, dI) cA [.ref (ad 15), .int a1, .int a2, .int a3, .int a4] (wA ad cA) u sz (fun v w1 => v = r ∧ w1 = w ∧ (v = 0 ∨ v = 1)) := by
  refine v_metI (own := R_Md) [some (.ref (ad 15)), some (.int a1), some (.int a2), some (.int a3), some (.int a4), none, none] rfl (by decide) (Nat.le_of_ble_eq_true rfl) rfl rfl (fun v u h => by rcases h.2.2 with h | h <;> rw [h] <;> rfl) ?_
  intro p e s m args below meth c A Q ret
  unfold f_Md_store at h
  refine v_iload_n d_Md_store_0 rfl rfl ?_
  refine v_iload_n d_Md_store_1 rfl rfl ?_
  obtain ⟨y1, u2, hc3, h⟩ := bd_inv h
  refine vc_Md_Md_isPlace hc3 (Nat.le_of_ble_eq_true rfl) (Nat.le_of_ble_eq_true rfl) (Nat.le_of_ble_eq_true rfl) d_Md_store_2 rfl ?_
  refine v_if_eq 43 d_Md_store_5 (by decide) rfl (fun c28 => ?_) (fun c28 => ?_)
  · replace h := (if_pos c28).symm.trans h
    refine v_iconst 0 d_Md_store_43 (by decide) rfl ?_
    obtain ⟨e1, e2⟩ := rt_inv h
    exact ret _ _ _ _ ⟨e1, e2, Or.inl rfl⟩ d_Md_store_44
  · replace h := (if_neg c28).symm.trans h
    refine v_iload_n d_Md_store_8 rfl rfl ?_
    refine v_iload d_Md_store_9 rfl rfl ?_
    obtain ⟨y4, u5, hc6, h⟩ := bd_inv h
    refine vc_Md_Md_isPlace hc6 (Nat.le_of_ble_eq_true rfl) (Nat.le_of_ble_eq_true rfl) (Nat.le_of_ble_eq_true rfl) d_Md_store_11 rfl ?_
    refine v_if_eq 43 d_Md_store_14 (by decide) rfl (fun c27 => ?_) (fun c27 => ?_)
    · replace h := (if_pos c27).symm.trans h
      refine v_iconst 0 d_Md_store_43 (by decide) rfl ?_
      obtain ⟨e1, e2⟩ := rt_inv h
      exact ret _ _ _ _ ⟨e1, e2, Or.inl rfl⟩ d_Md_store_44
    · replace h := (if_neg c27).symm.trans h
      refine v_iload_n d_Md_store_17 rfl rfl ?_
      refine v_iconst 0 d_Md_store_18 (by decide) rfl ?_
      refine v_iconst 1 d_Md_store_19 (by decide) rfl ?_
      obtain ⟨y7, u8, hc9, h⟩ := bd_inv h
      refine vc_Md_Md_within hc9 (Nat.le_of_ble_eq_true rfl) (Nat.le_of_ble_eq_true rfl) (Nat.le_of_ble_eq_true rfl) d_Md_store_20 rfl ?_
      refine v_if_eq 43 d_Md_store_23 (by decide) rfl (fun c26 => ?_) (fun c26 => ?_)
      · replace h := (if_pos c26).symm.trans h
        refine v_iconst 0 d_Md_store_43 (by decide) rfl ?_
        obtain ⟨e1, e2⟩ := rt_inv h
        exact ret _ _ _ _ ⟨e1, e2, Or.inl rfl⟩ d_Md_store_44
      · replace h := (if_neg c26).symm.trans h
        refine v_aload_n d_Md_store_26 rfl rfl ?_
        refine v_aload_n d_Md_store_27 rfl rfl ?_
        refine vg_Md_rootOf d_Md_store_28 rfl ?_
        refine v_iconst 3 d_Md_store_31 (by decide) rfl ?_
        refine v_iload_n d_Md_store_32 rfl rfl ?_
        refine v_imul d_Md_store_33 rfl ?_
        refine v_iload_n d_Md_store_34 rfl rfl ?_
        refine v_iadd d_Md_store_35 rfl ?_
        obtain ⟨g10, h⟩ := gd_inv h
        refine v_ald 19 (wA_19 ad cA _) d_Md_store_36 g10 rfl ?_
        obtain ⟨y11, u12, hc13, h⟩ := bd_inv h
        refine vc_Md_Md_there hc13 (Nat.le_of_ble_eq_true rfl) (Nat.le_of_ble_eq_true rfl) (Nat.le_of_ble_eq_true rfl) d_Md_store_37 rfl ?_
        refine v_if_ne 45 d_Md_store_40 (by decide) rfl (fun c25 => ?_) (fun c25 => ?_)
        · replace h := (if_pos c25).symm.trans h
          refine v_iconst 0 d_Md_store_43 (by decide) rfl ?_
          obtain ⟨e1, e2⟩ := rt_inv h
          exact ret _ _ _ _ ⟨e1, e2, Or.inl rfl⟩ d_Md_store_44
        · replace h := (if_neg c25).symm.trans h
          refine v_aload_n d_Md_store_45 rfl rfl ?_
          refine v_dup d_Md_store_46 rfl rfl ?_
          refine vg_Md_clock d_Md_store_47 rfl ?_
          refine v_iconst 1 d_Md_store_50 (by decide) rfl ?_
          refine v_iadd d_Md_store_51 rfl ?_
          obtain ⟨u14, eu14, h⟩ := jn_inv h
          refine vp_Md_clock eu14 d_Md_store_52 rfl ?_
          refine v_aload_n d_Md_store_55 rfl rfl ?_
          refine vg_Md_rootOf d_Md_store_56 rfl ?_
          refine v_iconst 3 d_Md_store_59 (by decide) rfl ?_
          refine v_iload_n d_Md_store_60 rfl rfl ?_
          refine v_imul d_Md_store_61 rfl ?_
          refine v_iload_n d_Md_store_62 rfl rfl ?_
          refine v_iadd d_Md_store_63 rfl ?_
          obtain ⟨g15, h⟩ := gd_inv h
          refine v_ald 19 (wA_19 ad cA _) d_Md_store_64 g15 rfl ?_
          refine v_istore (lo' := [_, _, _, _, _, _, none]) d_Md_store_65 rfl (by decide) rfl ?_
          refine v_aload_n d_Md_store_67 rfl rfl ?_
          refine vg_Md_rootOf d_Md_store_68 rfl ?_
          refine v_iconst 3 d_Md_store_71 (by decide) rfl ?_
          refine v_iload_n d_Md_store_72 rfl rfl ?_
          refine v_imul d_Md_store_73 rfl ?_
          refine v_iload d_Md_store_74 rfl rfl ?_
          refine v_iadd d_Md_store_76 rfl ?_
          obtain ⟨g16, h⟩ := gd_inv h
          refine v_ald 19 (wA_19 ad cA _) d_Md_store_77 g16 rfl ?_
          refine v_istore (lo' := [_, _, _, _, _, _, _]) d_Md_store_78 rfl (by decide) rfl ?_
          refine v_aload_n d_Md_store_80 rfl rfl ?_
          refine vg_Md_fieldOf d_Md_store_81 rfl ?_
          refine v_iconst 2 d_Md_store_84 (by decide) rfl ?_
          refine v_iload d_Md_store_85 rfl rfl ?_
          refine v_imul d_Md_store_87 rfl ?_
          refine v_iload_n d_Md_store_88 rfl rfl ?_
          refine v_iadd d_Md_store_89 rfl ?_
          refine v_iload d_Md_store_90 rfl rfl ?_
          obtain ⟨g17, h⟩ := gd_inv h
          obtain ⟨u18, eu18, h⟩ := jn_inv h
          refine v_ast 18 (wA_18 ad cA _) (ws_18 ad cA _ _ _) eu18 d_Md_store_92 g17 rfl ?_
          refine v_aload_n d_Md_store_93 rfl rfl ?_
          refine vg_Md_ownerOf d_Md_store_94 rfl ?_
          refine v_iload d_Md_store_97 rfl rfl ?_
          obtain ⟨g19, h⟩ := gd_inv h
          refine v_ald 16 (wA_16 ad cA _) d_Md_store_99 g19 rfl ?_
          refine v_iload_n d_Md_store_100 rfl rfl ?_
          refine v_icmp_eq 117 d_Md_store_101 (by decide) rfl (fun c24 => ?_) (fun c24 => ?_)
          · replace h := (if_pos c24).symm.trans h
            refine v_iconst 1 d_Md_store_117 (by decide) rfl ?_
            obtain ⟨e1, e2⟩ := rt_inv h
            exact ret _ _ _ _ ⟨e1, e2, Or.inr rfl⟩ d_Md_store_118
          · replace h := (if_neg c24).symm.trans h
            refine v_aload_n d_Md_store_104 rfl rfl ?_
            refine v_iload d_Md_store_105 rfl rfl ?_
            refine v_aload_n d_Md_store_107 rfl rfl ?_
            refine vg_Md_ownerOf d_Md_store_108 rfl ?_
            refine v_iload d_Md_store_111 rfl rfl ?_
            obtain ⟨g20, h⟩ := gd_inv h
            refine v_ald 16 (wA_16 ad cA _) d_Md_store_113 g20 rfl ?_
            obtain ⟨_y21, u22, hc23, h⟩ := bd_inv h
            refine vc_Md_Md_arrive hc23 (Nat.le_of_ble_eq_true rfl) (Nat.le_of_ble_eq_true rfl) (Nat.le_of_ble_eq_true rfl) d_Md_store_114 rfl ?_
            refine v_iconst 1 d_Md_store_117 (by decide) rfl ?_
            obtain ⟨e1, e2⟩ := rt_inv h
            exact ret _ _ _ _ ⟨e1, e2, Or.inr rfl⟩ d_Md_store_118
theorem vc_La_Md_store {p : Program} {l : Launch} {e : Env} {fr rc rs rl : Nat} {s : State} {m : MethodId} {args : Array Value} {below : List Frame} {meth : Method} {c : Code} {cells slots : Nat} {Q : State → Prop} {A : Nat → Prop} {cc : ByteArray} {nL : Nat} {dC : Nat → ClassId} {dI : Nat → Nat → Nat} {cA : ClassId} {ad : Nat → Nat} {pc q : Nat} {lo : List (Option Value)} {rest : List Value} {u w : Mem} {r : Int32} {N : Nat} {b0 b1 b2 b3 : Int32} (h : f_Md_store N b0 b1 b2 b3 u = some (r, w)) (hfr : 3 + 1 ≤ fr) (hrl : 8 + (7 + 11) + 66 ≤ rl) (hrm : (rest.map fun v => v.category).sum ≤ 8) (hd : decode cc pc = .ok (.invokevirtual 27, 3)) (hq : pc + 3 = q) (k : VJ p l e fr rc rs rl s m args below meth c cells slots Q A cc nL R_La (dC, dI) cA (wA ad cA) q lo (.int r :: rest) w) : VJ p l e fr rc rs rl s m args below meth c cells slots Q A cc nL R_La (dC, dI) cA (wA ad cA) pc lo (.int b3 :: .int b2 :: .int b1 :: .int b0 :: .ref (ad 15) :: rest) u :=
  v_callVI (As := [.int b0, .int b1, .int b2, .int b3]) (rest := rest) (fun sz => c_Md_store l dC dI ad cA sz N b0 b1 b2 b3 u r w h) tw_461 tw_462 tw_463 15 (wA_15 ad cA u) rfl rfl tw_464 tw_28 4 rfl (by decide +kernel) hfr hrl rfl hrm hd hq (fun v w1 hE => by obtain ⟨rfl, rfl, -⟩ := hE; exact k)
