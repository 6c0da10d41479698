/-! Contracts. -/
theorem d_Sh_make_0 : decode b_Sh_make 0 = .ok (.iload_n 1, 1) := by decide +kernel
theorem d_Sh_make_1 : decode b_Sh_make 1 = .ok (.iload_n 2, 1) := by decide +kernel
theorem d_Sh_make_2 : decode b_Sh_make 2 = .ok (.invokestatic 44, 3) := by decide +kernel
theorem d_Sh_make_5 : decode b_Sh_make 5 = .ok (.ifCond .eq 23, 3) := by decide +kernel
theorem d_Sh_make_8 : decode b_Sh_make 8 = .ok (.iload_n 3, 1) := by decide +kernel
theorem d_Sh_make_9 : decode b_Sh_make 9 = .ok (.invokestatic 48, 3) := by decide +kernel
theorem d_Sh_make_12 : decode b_Sh_make 12 = .ok (.ifCond .eq 16, 3) := by decide +kernel
theorem d_Sh_make_15 : decode b_Sh_make 15 = .ok (.aload_n 0, 1) := by decide +kernel
theorem d_Sh_make_16 : decode b_Sh_make 16 = .ok (.getfield 16, 3) := by decide +kernel
theorem d_Sh_make_19 : decode b_Sh_make 19 = .ok (.iload_n 3, 1) := by decide +kernel
theorem d_Sh_make_20 : decode b_Sh_make 20 = .ok (.invokevirtual 52, 3) := by decide +kernel
theorem d_Sh_make_23 : decode b_Sh_make 23 = .ok (.bipush 8, 2) := by decide +kernel
theorem d_Sh_make_25 : decode b_Sh_make 25 = .ok (.if_icmp .lt 5, 3) := by decide +kernel
theorem d_Sh_make_28 : decode b_Sh_make 28 = .ok (.iconst (-1), 1) := by decide +kernel
theorem d_Sh_make_29 : decode b_Sh_make 29 = .ok (.ireturn, 1) := by decide +kernel
theorem d_Sh_make_30 : decode b_Sh_make 30 = .ok (.aload_n 0, 1) := by decide +kernel
theorem d_Sh_make_31 : decode b_Sh_make 31 = .ok (.dup, 1) := by decide +kernel
theorem d_Sh_make_32 : decode b_Sh_make 32 = .ok (.getfield 56, 3) := by decide +kernel
theorem d_Sh_make_35 : decode b_Sh_make 35 = .ok (.iconst 1, 1) := by decide +kernel
theorem d_Sh_make_36 : decode b_Sh_make 36 = .ok (.iadd, 1) := by decide +kernel
theorem d_Sh_make_37 : decode b_Sh_make 37 = .ok (.putfield 56, 3) := by decide +kernel
theorem d_Sh_make_40 : decode b_Sh_make 40 = .ok (.aload_n 0, 1) := by decide +kernel
theorem d_Sh_make_41 : decode b_Sh_make 41 = .ok (.getfield 16, 3) := by decide +kernel
theorem d_Sh_make_44 : decode b_Sh_make 44 = .ok (.iload_n 3, 1) := by decide +kernel
theorem d_Sh_make_45 : decode b_Sh_make 45 = .ok (.invokevirtual 60, 3) := by decide +kernel
theorem d_Sh_make_48 : decode b_Sh_make 48 = .ok (.istore 4, 2) := by decide +kernel
theorem d_Sh_make_50 : decode b_Sh_make 50 = .ok (.aload_n 0, 1) := by decide +kernel
theorem d_Sh_make_51 : decode b_Sh_make 51 = .ok (.getfield 9, 3) := by decide +kernel
theorem d_Sh_make_54 : decode b_Sh_make 54 = .ok (.iload_n 1, 1) := by decide +kernel
theorem d_Sh_make_55 : decode b_Sh_make 55 = .ok (.iconst 3, 1) := by decide +kernel
theorem d_Sh_make_56 : decode b_Sh_make 56 = .ok (.imul, 1) := by decide +kernel
theorem d_Sh_make_57 : decode b_Sh_make 57 = .ok (.iload_n 2, 1) := by decide +kernel
theorem d_Sh_make_58 : decode b_Sh_make 58 = .ok (.iadd, 1) := by decide +kernel
theorem d_Sh_make_59 : decode b_Sh_make 59 = .ok (.iload 4, 2) := by decide +kernel
theorem d_Sh_make_61 : decode b_Sh_make 61 = .ok (.iastore, 1) := by decide +kernel
theorem d_Sh_make_62 : decode b_Sh_make 62 = .ok (.aload_n 0, 1) := by decide +kernel
theorem d_Sh_make_63 : decode b_Sh_make 63 = .ok (.iload 4, 2) := by decide +kernel
theorem d_Sh_make_65 : decode b_Sh_make 65 = .ok (.iload_n 3, 1) := by decide +kernel
theorem d_Sh_make_66 : decode b_Sh_make 66 = .ok (.iload_n 1, 1) := by decide +kernel
theorem d_Sh_make_67 : decode b_Sh_make 67 = .ok (.invokevirtual 63, 3) := by decide +kernel
theorem d_Sh_make_70 : decode b_Sh_make 70 = .ok (.iload 4, 2) := by decide +kernel
theorem d_Sh_make_72 : decode b_Sh_make 72 = .ok (.ireturn, 1) := by decide +kernel
set_option maxHeartbeats 4000000 in
set_option maxRecDepth 100000 in
theorem c_Sh_make (l : Launch) (dC : Nat → ClassId) (dI : Nat → Nat → Nat) (ad : Nat → Nat) (cA : ClassId) (sz : Nat) (N : Nat) (a1 a2 a3 : Int32) (u : Mem) (r : Int32) (w : Mem) (h : f_Sh_make N a1 a2 a3 u = some (r, w)) : CtI l y_Sh_make (Cond.code y_Sh_make b_Sh_make 5 (some .int) :: lw_gd) 4 95 (dC, dI) cA [.ref (ad 0), .int a1, .int a2, .int a3] (wA ad cA) u sz (fun v w1 => v = r ∧ w1 = w) := by
  refine v_metI (own := R_Sh) [some (.ref (ad 0)), some (.int a1), some (.int a2), some (.int a3), none] rfl (by decide) (Nat.le_of_ble_eq_true rfl) rfl rfl (fun v u h => rfl) ?_
  intro p e s m args below meth c A Q ret
  unfold f_Sh_make at h
  refine v_iload_n d_Sh_make_0 rfl rfl ?_
  refine v_iload_n d_Sh_make_1 rfl rfl ?_
  obtain ⟨y1, u2, hc3, h⟩ := bd_inv h
  refine vc_Sh_Sh_isRoot hc3 (Nat.le_of_ble_eq_true rfl) (Nat.le_of_ble_eq_true rfl) (Nat.le_of_ble_eq_true rfl) d_Sh_make_2 rfl ?_
  refine v_if_eq 28 d_Sh_make_5 (by decide) rfl (fun c21 => ?_) (fun c21 => ?_)
  · replace h := (if_pos c21).symm.trans h
    refine v_iconst (-1) d_Sh_make_28 (by decide) rfl ?_
    obtain ⟨e1, e2⟩ := rt_inv h
    exact ret _ _ _ _ ⟨e1, e2⟩ d_Sh_make_29
  · replace h := (if_neg c21).symm.trans h
    refine v_iload_n d_Sh_make_8 rfl rfl ?_
    obtain ⟨y4, u5, hc6, h⟩ := bd_inv h
    refine vc_Sh_Sh_isNode hc6 (Nat.le_of_ble_eq_true rfl) (Nat.le_of_ble_eq_true rfl) (Nat.le_of_ble_eq_true rfl) d_Sh_make_9 rfl ?_
    refine v_if_eq 28 d_Sh_make_12 (by decide) rfl (fun c20 => ?_) (fun c20 => ?_)
    · replace h := (if_pos c20).symm.trans h
      refine v_iconst (-1) d_Sh_make_28 (by decide) rfl ?_
      obtain ⟨e1, e2⟩ := rt_inv h
      exact ret _ _ _ _ ⟨e1, e2⟩ d_Sh_make_29
    · replace h := (if_neg c20).symm.trans h
      refine v_aload_n d_Sh_make_15 rfl rfl ?_
      refine vg_Sh_heap d_Sh_make_16 rfl ?_
      refine v_iload_n d_Sh_make_19 rfl rfl ?_
      obtain ⟨y7, u8, hc9, h⟩ := bd_inv h
      refine vc_Sh_Hp_countOn hc9 (Nat.le_of_ble_eq_true rfl) (Nat.le_of_ble_eq_true rfl) (Nat.le_of_ble_eq_true rfl) d_Sh_make_20 rfl ?_
      refine v_bipush 8 d_Sh_make_23 (by decide) rfl ?_
      refine v_icmp_lt 30 d_Sh_make_25 (by decide) rfl (fun c19 => ?_) (fun c19 => ?_)
      · replace h := (if_pos c19).symm.trans h
        refine v_aload_n d_Sh_make_30 rfl rfl ?_
        refine v_dup d_Sh_make_31 rfl rfl ?_
        refine vg_Sh_clock d_Sh_make_32 rfl ?_
        refine v_iconst 1 d_Sh_make_35 (by decide) rfl ?_
        refine v_iadd d_Sh_make_36 rfl ?_
        obtain ⟨u10, eu10, h⟩ := jn_inv h
        refine vp_Sh_clock eu10 d_Sh_make_37 rfl ?_
        refine v_aload_n d_Sh_make_40 rfl rfl ?_
        refine vg_Sh_heap d_Sh_make_41 rfl ?_
        refine v_iload_n d_Sh_make_44 rfl rfl ?_
        obtain ⟨y11, u12, hc13, h⟩ := bd_inv h
        refine vc_Sh_Hp_add hc13 (Nat.le_of_ble_eq_true rfl) (Nat.le_of_ble_eq_true rfl) (Nat.le_of_ble_eq_true rfl) d_Sh_make_45 rfl ?_
        refine v_istore (lo' := [_, _, _, _, _]) d_Sh_make_48 rfl (by decide) rfl ?_
        refine v_aload_n d_Sh_make_50 rfl rfl ?_
        refine vg_Sh_roots d_Sh_make_51 rfl ?_
        refine v_iload_n d_Sh_make_54 rfl rfl ?_
        refine v_iconst 3 d_Sh_make_55 (by decide) rfl ?_
        refine v_imul d_Sh_make_56 rfl ?_
        refine v_iload_n d_Sh_make_57 rfl rfl ?_
        refine v_iadd d_Sh_make_58 rfl ?_
        refine v_iload d_Sh_make_59 rfl rfl ?_
        obtain ⟨g14, h⟩ := gd_inv h
        obtain ⟨u15, eu15, h⟩ := jn_inv h
        refine v_ast 1 (wA_1 ad cA _) (ws_1 ad cA _ _ _) eu15 d_Sh_make_61 g14 rfl ?_
        refine v_aload_n d_Sh_make_62 rfl rfl ?_
        refine v_iload d_Sh_make_63 rfl rfl ?_
        refine v_iload_n d_Sh_make_65 rfl rfl ?_
        refine v_iload_n d_Sh_make_66 rfl rfl ?_
        obtain ⟨_y16, u17, hc18, h⟩ := bd_inv h
        refine vc_Sh_Sh_carry hc18 (Nat.le_of_ble_eq_true rfl) (Nat.le_of_ble_eq_true rfl) (Nat.le_of_ble_eq_true rfl) d_Sh_make_67 rfl ?_
        refine v_iload d_Sh_make_70 rfl rfl ?_
        obtain ⟨e1, e2⟩ := rt_inv h
        exact ret _ _ _ _ ⟨e1, e2⟩ d_Sh_make_72
      · replace h := (if_neg c19).symm.trans h
        refine v_iconst (-1) d_Sh_make_28 (by decide) rfl ?_
        obtain ⟨e1, e2⟩ := rt_inv h
        exact ret _ _ _ _ ⟨e1, e2⟩ d_Sh_make_29
theorem vc_La_Sh_make {p : Program} {l : Launch} {e : Env} {fr rc rs rl : Nat} {s : State} {m : MethodId} {args : Array Value} {below : List Frame} {meth : Method} {c : Code} {cells slots : Nat} {Q : State → Prop} {A : Nat → Prop} {cc : ByteArray} {nL : Nat} {dC : Nat → ClassId} {dI : Nat → Nat → Nat} {cA : ClassId} {ad : Nat → Nat} {pc q : Nat} {lo : List (Option Value)} {rest : List Value} {u w : Mem} {r : Int32} {N : Nat} {b0 b1 b2 : Int32} (h : f_Sh_make N b0 b1 b2 u = some (r, w)) (hfr : 4 + 1 ≤ fr) (hrl : 8 + (5 + 11) + 95 ≤ rl) (hrm : (rest.map fun v => v.category).sum ≤ 8) (hd : decode cc pc = .ok (.invokevirtual 13, 3)) (hq : pc + 3 = q) (k : VJ p l e fr rc rs rl s m args below meth c cells slots Q A cc nL R_La (dC, dI) cA (wA ad cA) q lo (.int r :: rest) w) : VJ p l e fr rc rs rl s m args below meth c cells slots Q A cc nL R_La (dC, dI) cA (wA ad cA) pc lo (.int b2 :: .int b1 :: .int b0 :: .ref (ad 0) :: rest) u :=
  v_callVI (As := [.int b0, .int b1, .int b2]) (rest := rest) (fun sz => c_Sh_make l dC dI ad cA sz N b0 b1 b2 u r w h) tw_119 tw_120 tw_121 0 (wA_0 ad cA u) rfl rfl tw_122 tw_24 3 rfl (by decide +kernel) hfr hrl rfl hrm hd hq (fun v w1 hE => by obtain ⟨rfl, rfl⟩ := hE; exact k)
theorem d_Sh_isField_0 : decode b_Sh_isField 0 = .ok (.iload_n 0, 1) := by decide +kernel
theorem d_Sh_isField_1 : decode b_Sh_isField 1 = .ok (.ifCond .lt 12, 3) := by decide +kernel
theorem d_Sh_isField_4 : decode b_Sh_isField 4 = .ok (.iload_n 0, 1) := by decide +kernel
theorem d_Sh_isField_5 : decode b_Sh_isField 5 = .ok (.iconst 2, 1) := by decide +kernel
theorem d_Sh_isField_6 : decode b_Sh_isField 6 = .ok (.if_icmp .ge 7, 3) := by decide +kernel
theorem d_Sh_isField_9 : decode b_Sh_isField 9 = .ok (.iconst 1, 1) := by decide +kernel
theorem d_Sh_isField_10 : decode b_Sh_isField 10 = .ok (.goto 4, 3) := by decide +kernel
theorem d_Sh_isField_13 : decode b_Sh_isField 13 = .ok (.iconst 0, 1) := by decide +kernel
theorem d_Sh_isField_14 : decode b_Sh_isField 14 = .ok (.ireturn, 1) := by decide +kernel
set_option maxHeartbeats 4000000 in
set_option maxRecDepth 100000 in
theorem c_Sh_isField (l : Launch) (dC : Nat → ClassId) (dI : Nat → Nat → Nat) (ad : Nat → Nat) (cA : ClassId) (sz : Nat) (N : Nat) (a0 : Int32) (u : Mem) (r : Int32) (w : Mem) (h : f_Sh_isField N a0 u = some (r, w)) : CtI l y_Sh_isField (Cond.code y_Sh_isField b_Sh_isField 1 (some .boolean) :: lw_gd) 0 0 (dC, dI) cA [.int a0] (wA ad cA) u sz (fun v w1 => v = r ∧ w1 = w ∧ (v = 0 ∨ v = 1)) := by
  refine v_metI (own := R_Sh) [some (.int a0)] rfl (by decide) (Nat.le_of_ble_eq_true rfl) rfl rfl (fun v u h => by rcases h.2.2 with h | h <;> rw [h] <;> rfl) ?_
  intro p e s m args below meth c A Q ret
  unfold f_Sh_isField at h
  refine v_iload_n d_Sh_isField_0 rfl rfl ?_
  refine v_if_lt 13 d_Sh_isField_1 (by decide) rfl (fun c2 => ?_) (fun c2 => ?_)
  · replace h := (if_pos c2).symm.trans h
    refine v_iconst 0 d_Sh_isField_13 (by decide) rfl ?_
    obtain ⟨e1, e2⟩ := rt_inv h
    exact ret _ _ _ _ ⟨e1, e2, Or.inl rfl⟩ d_Sh_isField_14
  · replace h := (if_neg c2).symm.trans h
    refine v_iload_n d_Sh_isField_4 rfl rfl ?_
    refine v_iconst 2 d_Sh_isField_5 (by decide) rfl ?_
    refine v_icmp_ge 13 d_Sh_isField_6 (by decide) rfl (fun c1 => ?_) (fun c1 => ?_)
    · replace h := (if_pos c1).symm.trans h
      refine v_iconst 0 d_Sh_isField_13 (by decide) rfl ?_
      obtain ⟨e1, e2⟩ := rt_inv h
      exact ret _ _ _ _ ⟨e1, e2, Or.inl rfl⟩ d_Sh_isField_14
    · replace h := (if_neg c1).symm.trans h
      refine v_iconst 1 d_Sh_isField_9 (by decide) rfl ?_
      refine v_goto 14 d_Sh_isField_10 (by decide) ?_
      obtain ⟨e1, e2⟩ := rt_inv h
      exact ret _ _ _ _ ⟨e1, e2, Or.inr rfl⟩ d_Sh_isField_14
theorem vc_Sh_Sh_isField {p : Program} {l : Launch} {e : Env} {fr rc rs rl : Nat} {s : State} {m : MethodId} {args : Array Value} {below : List Frame} {meth : Method} {c : Code} {cells slots : Nat} {Q : State → Prop} {A : Nat → Prop} {cc : ByteArray} {nL : Nat} {dC : Nat → ClassId} {dI : Nat → Nat → Nat} {cA : ClassId} {ad : Nat → Nat} {pc q : Nat} {lo : List (Option Value)} {rest : List Value} {u w : Mem} {r : Int32} {N : Nat} {b0 : Int32} (h : f_Sh_isField N b0 u = some (r, w)) (hfr : 0 + 1 ≤ fr) (hrl : 8 + (1 + 11) + 0 ≤ rl) (hrm : (rest.map fun v => v.category).sum ≤ 8) (hd : decode cc pc = .ok (.invokestatic 67, 3)) (hq : pc + 3 = q) (k : VJ p l e fr rc rs rl s m args below meth c cells slots Q A cc nL R_Sh (dC, dI) cA (wA ad cA) q lo (.int r :: rest) w) : VJ p l e fr rc rs rl s m args below meth c cells slots Q A cc nL R_Sh (dC, dI) cA (wA ad cA) pc lo (.int b0 ::  rest) u :=
  v_callSI (As := [.int b0]) (rest := rest) (fun sz => c_Sh_isField l dC dI ad cA sz N b0 u r w h) tw_191 tw_192 tw_193 tw_24 1 rfl (by decide +kernel) hfr hrl rfl hrm hd hq (fun v w1 hE => by obtain ⟨rfl, rfl, -⟩ := hE; exact k)
theorem d_Hp_fieldAt_0 : decode b_Hp_fieldAt 0 = .ok (.aload_n 0, 1) := by decide +kernel
theorem d_Hp_fieldAt_1 : decode b_Hp_fieldAt 1 = .ok (.getfield 15, 3) := by decide +kernel
theorem d_Hp_fieldAt_4 : decode b_Hp_fieldAt 4 = .ok (.iload_n 1, 1) := by decide +kernel
theorem d_Hp_fieldAt_5 : decode b_Hp_fieldAt 5 = .ok (.iconst 2, 1) := by decide +kernel
theorem d_Hp_fieldAt_6 : decode b_Hp_fieldAt 6 = .ok (.imul, 1) := by decide +kernel
theorem d_Hp_fieldAt_7 : decode b_Hp_fieldAt 7 = .ok (.iload_n 2, 1) := by decide +kernel
theorem d_Hp_fieldAt_8 : decode b_Hp_fieldAt 8 = .ok (.iadd, 1) := by decide +kernel
theorem d_Hp_fieldAt_9 : decode b_Hp_fieldAt 9 = .ok (.iaload, 1) := by decide +kernel
theorem d_Hp_fieldAt_10 : decode b_Hp_fieldAt 10 = .ok (.ireturn, 1) := by decide +kernel
set_option maxHeartbeats 4000000 in
set_option maxRecDepth 100000 in
theorem c_Hp_fieldAt (l : Launch) (dC : Nat → ClassId) (dI : Nat → Nat → Nat) (ad : Nat → Nat) (cA : ClassId) (sz : Nat) (N : Nat) (a1 a2 : Int32) (u : Mem) (r : Int32) (w : Mem) (h : f_Hp_fieldAt N a1 a2 u = some (r, w)) : CtI l y_Hp_fieldAt (Cond.code y_Hp_fieldAt b_Hp_fieldAt 3 (some .int) :: lw_gd) 0 0 (dC, dI) cA [.ref (ad 2), .int a1, .int a2] (wA ad cA) u sz (fun v w1 => v = r ∧ w1 = w) := by
  refine v_metI (own := R_Hp) [some (.ref (ad 2)), some (.int a1), some (.int a2)] rfl (by decide) (Nat.le_of_ble_eq_true rfl) rfl rfl (fun v u h => rfl) ?_
  intro p e s m args below meth c A Q ret
  unfold f_Hp_fieldAt at h
  refine v_aload_n d_Hp_fieldAt_0 rfl rfl ?_
  refine vg_Hp_fields d_Hp_fieldAt_1 rfl ?_
  refine v_iload_n d_Hp_fieldAt_4 rfl rfl ?_
  refine v_iconst 2 d_Hp_fieldAt_5 (by decide) rfl ?_
  refine v_imul d_Hp_fieldAt_6 rfl ?_
  refine v_iload_n d_Hp_fieldAt_7 rfl rfl ?_
  refine v_iadd d_Hp_fieldAt_8 rfl ?_
  obtain ⟨g1, h⟩ := gd_inv h
  refine v_ald 4 (wA_4 ad cA _) d_Hp_fieldAt_9 g1 rfl ?_
  obtain ⟨e1, e2⟩ := rt_inv h
  exact ret _ _ _ _ ⟨e1, e2⟩ d_Hp_fieldAt_10
theorem vc_Sh_Hp_fieldAt {p : Program} {l : Launch} {e : Env} {fr rc rs rl : Nat} {s : State} {m : MethodId} {args : Array Value} {below : List Frame} {meth : Method} {c : Code} {cells slots : Nat} {Q : State → Prop} {A : Nat → Prop} {cc : ByteArray} {nL : Nat} {dC : Nat → ClassId} {dI : Nat → Nat → Nat} {cA : ClassId} {ad : Nat → Nat} {pc q : Nat} {lo : List (Option Value)} {rest : List Value} {u w : Mem} {r : Int32} {N : Nat} {b0 b1 : Int32} (h : f_Hp_fieldAt N b0 b1 u = some (r, w)) (hfr : 0 + 1 ≤ fr) (hrl : 8 + (3 + 11) + 0 ≤ rl) (hrm : (rest.map fun v => v.category).sum ≤ 8) (hd : decode cc pc = .ok (.invokevirtual 73, 3)) (hq : pc + 3 = q) (k : VJ p l e fr rc rs rl s m args below meth c cells slots Q A cc nL R_Sh (dC, dI) cA (wA ad cA) q lo (.int r :: rest) w) : VJ p l e fr rc rs rl s m args below meth c cells slots Q A cc nL R_Sh (dC, dI) cA (wA ad cA) pc lo (.int b1 :: .int b0 :: .ref (ad 2) :: rest) u :=
  v_callVI (As := [.int b0, .int b1]) (rest := rest) (fun sz => c_Hp_fieldAt l dC dI ad cA sz N b0 b1 u r w h) tw_194 tw_195 tw_196 2 (wA_2 ad cA u) rfl rfl tw_197 tw_25 2 rfl (by decide +kernel) hfr hrl rfl hrm hd hq (fun v w1 hE => by obtain ⟨rfl, rfl⟩ := hE; exact k)
theorem vc_Hp_Hp_fieldAt {p : Program} {l : Launch} {e : Env} {fr rc rs rl : Nat} {s : State} {m : MethodId} {args : Array Value} {below : List Frame} {meth : Method} {c : Code} {cells slots : Nat} {Q : State → Prop} {A : Nat → Prop} {cc : ByteArray} {nL : Nat} {dC : Nat → ClassId} {dI : Nat → Nat → Nat} {cA : ClassId} {ad : Nat → Nat} {pc q : Nat} {lo : List (Option Value)} {rest : List Value} {u w : Mem} {r : Int32} {N : Nat} {b0 b1 : Int32} (h : f_Hp_fieldAt N b0 b1 u = some (r, w)) (hfr : 0 + 1 ≤ fr) (hrl : 8 + (3 + 11) + 0 ≤ rl) (hrm : (rest.map fun v => v.category).sum ≤ 8) (hd : decode cc pc = .ok (.invokevirtual 33, 3)) (hq : pc + 3 = q) (k : VJ p l e fr rc rs rl s m args below meth c cells slots Q A cc nL R_Hp (dC, dI) cA (wA ad cA) q lo (.int r :: rest) w) : VJ p l e fr rc rs rl s m args below meth c cells slots Q A cc nL R_Hp (dC, dI) cA (wA ad cA) pc lo (.int b1 :: .int b0 :: .ref (ad 2) :: rest) u :=
  v_callVI (As := [.int b0, .int b1]) (rest := rest) (fun sz => c_Hp_fieldAt l dC dI ad cA sz N b0 b1 u r w h) tw_274 tw_195 tw_196 2 (wA_2 ad cA u) rfl rfl tw_197 tw_25 2 rfl (by decide +kernel) hfr hrl rfl hrm hd hq (fun v w1 hE => by obtain ⟨rfl, rfl⟩ := hE; exact k)
theorem d_Sh_load_0 : decode b_Sh_load 0 = .ok (.iload_n 1, 1) := by decide +kernel
theorem d_Sh_load_1 : decode b_Sh_load 1 = .ok (.iload_n 2, 1) := by decide +kernel
theorem d_Sh_load_2 : decode b_Sh_load 2 = .ok (.invokestatic 44, 3) := by decide +kernel
theorem d_Sh_load_5 : decode b_Sh_load 5 = .ok (.ifCond .eq 19, 3) := by decide +kernel
theorem d_Sh_load_8 : decode b_Sh_load 8 = .ok (.iload_n 1, 1) := by decide +kernel
theorem d_Sh_load_9 : decode b_Sh_load 9 = .ok (.iload 4, 2) := by decide +kernel
theorem d_Sh_load_11 : decode b_Sh_load 11 = .ok (.invokestatic 44, 3) := by decide +kernel
theorem d_Sh_load_14 : decode b_Sh_load 14 = .ok (.ifCond .eq 10, 3) := by decide +kernel
theorem d_Sh_load_17 : decode b_Sh_load 17 = .ok (.iload_n 3, 1) := by decide +kernel
theorem d_Sh_load_18 : decode b_Sh_load 18 = .ok (.invokestatic 67, 3) := by decide +kernel
theorem d_Sh_load_21 : decode b_Sh_load 21 = .ok (.ifCond .ne 5, 3) := by decide +kernel
theorem d_Sh_load_24 : decode b_Sh_load 24 = .ok (.iconst (-1), 1) := by decide +kernel
theorem d_Sh_load_25 : decode b_Sh_load 25 = .ok (.ireturn, 1) := by decide +kernel
theorem d_Sh_load_26 : decode b_Sh_load 26 = .ok (.aload_n 0, 1) := by decide +kernel
theorem d_Sh_load_27 : decode b_Sh_load 27 = .ok (.getfield 16, 3) := by decide +kernel
theorem d_Sh_load_30 : decode b_Sh_load 30 = .ok (.aload_n 0, 1) := by decide +kernel
theorem d_Sh_load_31 : decode b_Sh_load 31 = .ok (.getfield 9, 3) := by decide +kernel
theorem d_Sh_load_34 : decode b_Sh_load 34 = .ok (.iload_n 1, 1) := by decide +kernel
theorem d_Sh_load_35 : decode b_Sh_load 35 = .ok (.iconst 3, 1) := by decide +kernel
theorem d_Sh_load_36 : decode b_Sh_load 36 = .ok (.imul, 1) := by decide +kernel
theorem d_Sh_load_37 : decode b_Sh_load 37 = .ok (.iload_n 2, 1) := by decide +kernel
theorem d_Sh_load_38 : decode b_Sh_load 38 = .ok (.iadd, 1) := by decide +kernel
theorem d_Sh_load_39 : decode b_Sh_load 39 = .ok (.iaload, 1) := by decide +kernel
theorem d_Sh_load_40 : decode b_Sh_load 40 = .ok (.invokevirtual 70, 3) := by decide +kernel
theorem d_Sh_load_43 : decode b_Sh_load 43 = .ok (.istore 5, 2) := by decide +kernel
theorem d_Sh_load_45 : decode b_Sh_load 45 = .ok (.iload 5, 2) := by decide +kernel
theorem d_Sh_load_47 : decode b_Sh_load 47 = .ok (.iconst (-1), 1) := by decide +kernel
theorem d_Sh_load_48 : decode b_Sh_load 48 = .ok (.if_icmp .ne 5, 3) := by decide +kernel
theorem d_Sh_load_51 : decode b_Sh_load 51 = .ok (.iconst (-1), 1) := by decide +kernel
theorem d_Sh_load_52 : decode b_Sh_load 52 = .ok (.ireturn, 1) := by decide +kernel
theorem d_Sh_load_53 : decode b_Sh_load 53 = .ok (.aload_n 0, 1) := by decide +kernel
theorem d_Sh_load_54 : decode b_Sh_load 54 = .ok (.dup, 1) := by decide +kernel
theorem d_Sh_load_55 : decode b_Sh_load 55 = .ok (.getfield 56, 3) := by decide +kernel
theorem d_Sh_load_58 : decode b_Sh_load 58 = .ok (.iconst 1, 1) := by decide +kernel
theorem d_Sh_load_59 : decode b_Sh_load 59 = .ok (.iadd, 1) := by decide +kernel
theorem d_Sh_load_60 : decode b_Sh_load 60 = .ok (.putfield 56, 3) := by decide +kernel
theorem d_Sh_load_63 : decode b_Sh_load 63 = .ok (.aload_n 0, 1) := by decide +kernel
theorem d_Sh_load_64 : decode b_Sh_load 64 = .ok (.getfield 16, 3) := by decide +kernel
theorem d_Sh_load_67 : decode b_Sh_load 67 = .ok (.iload 5, 2) := by decide +kernel
theorem d_Sh_load_69 : decode b_Sh_load 69 = .ok (.iload_n 3, 1) := by decide +kernel
theorem d_Sh_load_70 : decode b_Sh_load 70 = .ok (.invokevirtual 73, 3) := by decide +kernel
theorem d_Sh_load_73 : decode b_Sh_load 73 = .ok (.istore 6, 2) := by decide +kernel
theorem d_Sh_load_75 : decode b_Sh_load 75 = .ok (.aload_n 0, 1) := by decide +kernel
theorem d_Sh_load_76 : decode b_Sh_load 76 = .ok (.getfield 9, 3) := by decide +kernel
theorem d_Sh_load_79 : decode b_Sh_load 79 = .ok (.iload_n 1, 1) := by decide +kernel
theorem d_Sh_load_80 : decode b_Sh_load 80 = .ok (.iconst 3, 1) := by decide +kernel
theorem d_Sh_load_81 : decode b_Sh_load 81 = .ok (.imul, 1) := by decide +kernel
theorem d_Sh_load_82 : decode b_Sh_load 82 = .ok (.iload 4, 2) := by decide +kernel
theorem d_Sh_load_84 : decode b_Sh_load 84 = .ok (.iadd, 1) := by decide +kernel
theorem d_Sh_load_85 : decode b_Sh_load 85 = .ok (.iload 6, 2) := by decide +kernel
theorem d_Sh_load_87 : decode b_Sh_load 87 = .ok (.iastore, 1) := by decide +kernel
theorem d_Sh_load_88 : decode b_Sh_load 88 = .ok (.aload_n 0, 1) := by decide +kernel
theorem d_Sh_load_89 : decode b_Sh_load 89 = .ok (.iload 6, 2) := by decide +kernel
theorem d_Sh_load_91 : decode b_Sh_load 91 = .ok (.iload 5, 2) := by decide +kernel
theorem d_Sh_load_93 : decode b_Sh_load 93 = .ok (.invokestatic 77, 3) := by decide +kernel
theorem d_Sh_load_96 : decode b_Sh_load 96 = .ok (.iload_n 1, 1) := by decide +kernel
theorem d_Sh_load_97 : decode b_Sh_load 97 = .ok (.invokevirtual 63, 3) := by decide +kernel
theorem d_Sh_load_100 : decode b_Sh_load 100 = .ok (.iload 6, 2) := by decide +kernel
theorem d_Sh_load_102 : decode b_Sh_load 102 = .ok (.ireturn, 1) := by decide +kernel
set_option maxHeartbeats 4000000 in
set_option maxRecDepth 100000 in
theorem c_Sh_load (l : Launch) (dC : Nat → ClassId) (dI : Nat → Nat → Nat) (ad : Nat → Nat) (cA : ClassId) (sz : Nat) (N : Nat) (a1 a2 a3 a4 : Int32) (u : Mem) (r : Int32) (w : Mem) (h : f_Sh_load N a1 a2 a3 a4 u = some (r, w)) : CtI l y_Sh_load (Cond.code y_Sh_load b_Sh_load 7 (some .int) :: lw_gd) 4 95 (dC, dI) cA [.ref (ad 0), .int a1, .int a2, .int a3, .int a4] (wA ad cA) u sz (fun v w1 => v = r ∧ w1 = w) := by
  refine v_metI (own := R_Sh) [some (.ref (ad 0)), some (.int a1), some (.int a2), some (.int a3), some (.int a4), none, none] rfl (by decide) (Nat.le_of_ble_eq_true rfl) rfl rfl (fun v u h => rfl) ?_
  intro p e s m args below meth c A Q ret
  unfold f_Sh_load at h
  refine v_iload_n d_Sh_load_0 rfl rfl ?_
  refine v_iload_n d_Sh_load_1 rfl rfl ?_
  obtain ⟨y1, u2, hc3, h⟩ := bd_inv h
  refine vc_Sh_Sh_isRoot hc3 (Nat.le_of_ble_eq_true rfl) (Nat.le_of_ble_eq_true rfl) (Nat.le_of_ble_eq_true rfl) d_Sh_load_2 rfl ?_
  refine v_if_eq 24 d_Sh_load_5 (by decide) rfl (fun c29 => ?_) (fun c29 => ?_)
  · replace h := (if_pos c29).symm.trans h
    refine v_iconst (-1) d_Sh_load_24 (by decide) rfl ?_
    obtain ⟨e1, e2⟩ := rt_inv h
    exact ret _ _ _ _ ⟨e1, e2⟩ d_Sh_load_25
  · replace h := (if_neg c29).symm.trans h
    refine v_iload_n d_Sh_load_8 rfl rfl ?_
    refine v_iload d_Sh_load_9 rfl rfl ?_
    obtain ⟨y4, u5, hc6, h⟩ := bd_inv h
    refine vc_Sh_Sh_isRoot hc6 (Nat.le_of_ble_eq_true rfl) (Nat.le_of_ble_eq_true rfl) (Nat.le_of_ble_eq_true rfl) d_Sh_load_11 rfl ?_
    refine v_if_eq 24 d_Sh_load_14 (by decide) rfl (fun c28 => ?_) (fun c28 => ?_)
    · replace h := (if_pos c28).symm.trans h
      refine v_iconst (-1) d_Sh_load_24 (by decide) rfl ?_
      obtain ⟨e1, e2⟩ := rt_inv h
      exact ret _ _ _ _ ⟨e1, e2⟩ d_Sh_load_25
    · replace h := (if_neg c28).symm.trans h
      refine v_iload_n d_Sh_load_17 rfl rfl ?_
      obtain ⟨y7, u8, hc9, h⟩ := bd_inv h
      refine vc_Sh_Sh_isField hc9 (Nat.le_of_ble_eq_true rfl) (Nat.le_of_ble_eq_true rfl) (Nat.le_of_ble_eq_true rfl) d_Sh_load_18 rfl ?_
      refine v_if_ne 26 d_Sh_load_21 (by decide) rfl (fun c27 => ?_) (fun c27 => ?_)
      · replace h := (if_pos c27).symm.trans h
        refine v_iconst (-1) d_Sh_load_24 (by decide) rfl ?_
        obtain ⟨e1, e2⟩ := rt_inv h
        exact ret _ _ _ _ ⟨e1, e2⟩ d_Sh_load_25
      · replace h := (if_neg c27).symm.trans h
        refine v_aload_n d_Sh_load_26 rfl rfl ?_
        refine vg_Sh_heap d_Sh_load_27 rfl ?_
        refine v_aload_n d_Sh_load_30 rfl rfl ?_
        refine vg_Sh_roots d_Sh_load_31 rfl ?_
        refine v_iload_n d_Sh_load_34 rfl rfl ?_
        refine v_iconst 3 d_Sh_load_35 (by decide) rfl ?_
        refine v_imul d_Sh_load_36 rfl ?_
        refine v_iload_n d_Sh_load_37 rfl rfl ?_
        refine v_iadd d_Sh_load_38 rfl ?_
        obtain ⟨g10, h⟩ := gd_inv h
        refine v_ald 1 (wA_1 ad cA _) d_Sh_load_39 g10 rfl ?_
        obtain ⟨y11, u12, hc13, h⟩ := bd_inv h
        refine vc_Sh_Hp_slotOf hc13 (Nat.le_of_ble_eq_true rfl) (Nat.le_of_ble_eq_true rfl) (Nat.le_of_ble_eq_true rfl) d_Sh_load_40 rfl ?_
        refine v_istore (lo' := [_, _, _, _, _, _, none]) d_Sh_load_43 rfl (by decide) rfl ?_
        refine v_iload d_Sh_load_45 rfl rfl ?_
        refine v_iconst (-1) d_Sh_load_47 (by decide) rfl ?_
        refine v_icmp_ne 53 d_Sh_load_48 (by decide) rfl (fun c26 => ?_) (fun c26 => ?_)
        · replace h := (if_pos c26).symm.trans h
          refine v_iconst (-1) d_Sh_load_51 (by decide) rfl ?_
          obtain ⟨e1, e2⟩ := rt_inv h
          exact ret _ _ _ _ ⟨e1, e2⟩ d_Sh_load_52
        · replace h := (if_neg c26).symm.trans h
          refine v_aload_n d_Sh_load_53 rfl rfl ?_
          refine v_dup d_Sh_load_54 rfl rfl ?_
          refine vg_Sh_clock d_Sh_load_55 rfl ?_
          refine v_iconst 1 d_Sh_load_58 (by decide) rfl ?_
          refine v_iadd d_Sh_load_59 rfl ?_
          obtain ⟨u14, eu14, h⟩ := jn_inv h
          refine vp_Sh_clock eu14 d_Sh_load_60 rfl ?_
          refine v_aload_n d_Sh_load_63 rfl rfl ?_
          refine vg_Sh_heap d_Sh_load_64 rfl ?_
          refine v_iload d_Sh_load_67 rfl rfl ?_
          refine v_iload_n d_Sh_load_69 rfl rfl ?_
          obtain ⟨y15, u16, hc17, h⟩ := bd_inv h
          refine vc_Sh_Hp_fieldAt hc17 (Nat.le_of_ble_eq_true rfl) (Nat.le_of_ble_eq_true rfl) (Nat.le_of_ble_eq_true rfl) d_Sh_load_70 rfl ?_
          refine v_istore (lo' := [_, _, _, _, _, _, _]) d_Sh_load_73 rfl (by decide) rfl ?_
          refine v_aload_n d_Sh_load_75 rfl rfl ?_
          refine vg_Sh_roots d_Sh_load_76 rfl ?_
          refine v_iload_n d_Sh_load_79 rfl rfl ?_
          refine v_iconst 3 d_Sh_load_80 (by decide) rfl ?_
          refine v_imul d_Sh_load_81 rfl ?_
          refine v_iload d_Sh_load_82 rfl rfl ?_
          refine v_iadd d_Sh_load_84 rfl ?_
          refine v_iload d_Sh_load_85 rfl rfl ?_
          obtain ⟨g18, h⟩ := gd_inv h
          obtain ⟨u19, eu19, h⟩ := jn_inv h
          refine v_ast 1 (wA_1 ad cA _) (ws_1 ad cA _ _ _) eu19 d_Sh_load_87 g18 rfl ?_
          refine v_aload_n d_Sh_load_88 rfl rfl ?_
          refine v_iload d_Sh_load_89 rfl rfl ?_
          refine v_iload d_Sh_load_91 rfl rfl ?_
          obtain ⟨y20, u21, hc22, h⟩ := bd_inv h
          refine vc_Sh_Hp_nodeOf hc22 (Nat.le_of_ble_eq_true rfl) (Nat.le_of_ble_eq_true rfl) (Nat.le_of_ble_eq_true rfl) d_Sh_load_93 rfl ?_
          refine v_iload_n d_Sh_load_96 rfl rfl ?_
          obtain ⟨_y23, u24, hc25, h⟩ := bd_inv h
          refine vc_Sh_Sh_carry hc25 (Nat.le_of_ble_eq_true rfl) (Nat.le_of_ble_eq_true rfl) (Nat.le_of_ble_eq_true rfl) d_Sh_load_97 rfl ?_
          refine v_iload d_Sh_load_100 rfl rfl ?_
          obtain ⟨e1, e2⟩ := rt_inv h
          exact ret _ _ _ _ ⟨e1, e2⟩ d_Sh_load_102
theorem vc_La_Sh_load {p : Program} {l : Launch} {e : Env} {fr rc rs rl : Nat} {s : State} {m : MethodId} {args : Array Value} {below : List Frame} {meth : Method} {c : Code} {cells slots : Nat} {Q : State → Prop} {A : Nat → Prop} {cc : ByteArray} {nL : Nat} {dC : Nat → ClassId} {dI : Nat → Nat → Nat} {cA : ClassId} {ad : Nat → Nat} {pc q : Nat} {lo : List (Option Value)} {rest : List Value} {u w : Mem} {r : Int32} {N : Nat} {b0 b1 b2 b3 : Int32} (h : f_Sh_load N b0 b1 b2 b3 u = some (r, w)) (hfr : 4 + 1 ≤ fr) (hrl : 8 + (7 + 11) + 95 ≤ rl) (hrm : (rest.map fun v => v.category).sum ≤ 8) (hd : decode cc pc = .ok (.invokevirtual 18, 3)) (hq : pc + 3 = q) (k : VJ p l e fr rc rs rl s m args below meth c cells slots Q A cc nL R_La (dC, dI) cA (wA ad cA) q lo (.int r :: rest) w) : VJ p l e fr rc rs rl s m args below meth c cells slots Q A cc nL R_La (dC, dI) cA (wA ad cA) pc lo (.int b3 :: .int b2 :: .int b1 :: .int b0 :: .ref (ad 0) :: rest) u :=
  v_callVI (As := [.int b0, .int b1, .int b2, .int b3]) (rest := rest) (fun sz => c_Sh_load l dC dI ad cA sz N b0 b1 b2 b3 u r w h) tw_187 tw_188 tw_189 0 (wA_0 ad cA u) rfl rfl tw_190 tw_24 4 rfl (by decide +kernel) hfr hrl rfl hrm hd hq (fun v w1 hE => by obtain ⟨rfl, rfl⟩ := hE; exact k)
theorem d_Hp_setField_0 : decode b_Hp_setField 0 = .ok (.aload_n 0, 1) := by decide +kernel
theorem d_Hp_setField_1 : decode b_Hp_setField 1 = .ok (.getfield 15, 3) := by decide +kernel
theorem d_Hp_setField_4 : decode b_Hp_setField 4 = .ok (.iload_n 1, 1) := by decide +kernel
theorem d_Hp_setField_5 : decode b_Hp_setField 5 = .ok (.iconst 2, 1) := by decide +kernel
theorem d_Hp_setField_6 : decode b_Hp_setField 6 = .ok (.imul, 1) := by decide +kernel
theorem d_Hp_setField_7 : decode b_Hp_setField 7 = .ok (.iload_n 2, 1) := by decide +kernel
theorem d_Hp_setField_8 : decode b_Hp_setField 8 = .ok (.iadd, 1) := by decide +kernel
theorem d_Hp_setField_9 : decode b_Hp_setField 9 = .ok (.iload_n 3, 1) := by decide +kernel
theorem d_Hp_setField_10 : decode b_Hp_setField 10 = .ok (.iastore, 1) := by decide +kernel
theorem d_Hp_setField_11 : decode b_Hp_setField 11 = .ok (.return_, 1) := by decide +kernel
set_option maxHeartbeats 4000000 in
set_option maxRecDepth 100000 in
theorem c_Hp_setField (l : Launch) (dC : Nat → ClassId) (dI : Nat → Nat → Nat) (ad : Nat → Nat) (cA : ClassId) (sz : Nat) (N : Nat) (a1 a2 a3 : Int32) (u : Mem) (r : Int32) (w : Mem) (h : f_Hp_setField N a1 a2 a3 u = some (r, w)) : CtV l y_Hp_setField (Cond.code y_Hp_setField b_Hp_setField 4 none :: lw_gd) 0 0 (dC, dI) cA [.ref (ad 2), .int a1, .int a2, .int a3] (wA ad cA) u sz (fun w1 => w1 = w) := by
  refine v_metV (own := R_Hp) [some (.ref (ad 2)), some (.int a1), some (.int a2), some (.int a3)] rfl (by decide) (Nat.le_of_ble_eq_true rfl) rfl rfl ?_
  intro p e s m args below meth c A Q ret
  unfold f_Hp_setField at h
  refine v_aload_n d_Hp_setField_0 rfl rfl ?_
  refine vg_Hp_fields d_Hp_setField_1 rfl ?_
  refine v_iload_n d_Hp_setField_4 rfl rfl ?_
  refine v_iconst 2 d_Hp_setField_5 (by decide) rfl ?_
  refine v_imul d_Hp_setField_6 rfl ?_
  refine v_iload_n d_Hp_setField_7 rfl rfl ?_
  refine v_iadd d_Hp_setField_8 rfl ?_
  refine v_iload_n d_Hp_setField_9 rfl rfl ?_
  obtain ⟨g1, h⟩ := gd_inv h
  obtain ⟨u2, eu2, h⟩ := jn_inv h
  refine v_ast 4 (wA_4 ad cA _) (ws_4 ad cA _ _ _) eu2 d_Hp_setField_10 g1 rfl ?_
  obtain ⟨-, e2⟩ := rt_inv h
  exact ret _ _ _ e2 d_Hp_setField_11
theorem vc_Sh_Hp_setField {p : Program} {l : Launch} {e : Env} {fr rc rs rl : Nat} {s : State} {m : MethodId} {args : Array Value} {below : List Frame} {meth : Method} {c : Code} {cells slots : Nat} {Q : State → Prop} {A : Nat → Prop} {cc : ByteArray} {nL : Nat} {dC : Nat → ClassId} {dI : Nat → Nat → Nat} {cA : ClassId} {ad : Nat → Nat} {pc q : Nat} {lo : List (Option Value)} {rest : List Value} {u w : Mem} {r : Int32} {N : Nat} {b0 b1 b2 : Int32} (h : f_Hp_setField N b0 b1 b2 u = some (r, w)) (hfr : 0 + 1 ≤ fr) (hrl : 8 + (4 + 11) + 0 ≤ rl) (hrm : (rest.map fun v => v.category).sum ≤ 8) (hd : decode cc pc = .ok (.invokevirtual 80, 3)) (hq : pc + 3 = q) (k : VJ p l e fr rc rs rl s m args below meth c cells slots Q A cc nL R_Sh (dC, dI) cA (wA ad cA) q lo rest w) : VJ p l e fr rc rs rl s m args below meth c cells slots Q A cc nL R_Sh (dC, dI) cA (wA ad cA) pc lo (.int b2 :: .int b1 :: .int b0 :: .ref (ad 2) :: rest) u :=
  v_callVV (As := [.int b0, .int b1, .int b2]) (rest := rest) (fun sz => c_Hp_setField l dC dI ad cA sz N b0 b1 b2 u r w h) tw_202 tw_203 tw_204 2 (wA_2 ad cA u) rfl rfl tw_205 tw_25 3 rfl (by decide +kernel) hfr hrl rfl hrm hd hq (fun w1 hE => by subst hE; exact k)
theorem vc_Hp_Hp_setField {p : Program} {l : Launch} {e : Env} {fr rc rs rl : Nat} {s : State} {m : MethodId} {args : Array Value} {below : List Frame} {meth : Method} {c : Code} {cells slots : Nat} {Q : State → Prop} {A : Nat → Prop} {cc : ByteArray} {nL : Nat} {dC : Nat → ClassId} {dI : Nat → Nat → Nat} {cA : ClassId} {ad : Nat → Nat} {pc q : Nat} {lo : List (Option Value)} {rest : List Value} {u w : Mem} {r : Int32} {N : Nat} {b0 b1 b2 : Int32} (h : f_Hp_setField N b0 b1 b2 u = some (r, w)) (hfr : 0 + 1 ≤ fr) (hrl : 8 + (4 + 11) + 0 ≤ rl) (hrm : (rest.map fun v => v.category).sum ≤ 8) (hd : decode cc pc = .ok (.invokevirtual 29, 3)) (hq : pc + 3 = q) (k : VJ p l e fr rc rs rl s m args below meth c cells slots Q A cc nL R_Hp (dC, dI) cA (wA ad cA) q lo rest w) : VJ p l e fr rc rs rl s m args below meth c cells slots Q A cc nL R_Hp (dC, dI) cA (wA ad cA) pc lo (.int b2 :: .int b1 :: .int b0 :: .ref (ad 2) :: rest) u :=
  v_callVV (As := [.int b0, .int b1, .int b2]) (rest := rest) (fun sz => c_Hp_setField l dC dI ad cA sz N b0 b1 b2 u r w h) tw_307 tw_203 tw_204 2 (wA_2 ad cA u) rfl rfl tw_205 tw_25 3 rfl (by decide +kernel) hfr hrl rfl hrm hd hq (fun w1 hE => by subst hE; exact k)
theorem d_Sh_store_0 : decode b_Sh_store 0 = .ok (.iload_n 1, 1) := by decide +kernel
theorem d_Sh_store_1 : decode b_Sh_store 1 = .ok (.iload_n 2, 1) := by decide +kernel
theorem d_Sh_store_2 : decode b_Sh_store 2 = .ok (.invokestatic 44, 3) := by decide +kernel
theorem d_Sh_store_5 : decode b_Sh_store 5 = .ok (.ifCond .eq 19, 3) := by decide +kernel
theorem d_Sh_store_8 : decode b_Sh_store 8 = .ok (.iload_n 1, 1) := by decide +kernel
theorem d_Sh_store_9 : decode b_Sh_store 9 = .ok (.iload 4, 2) := by decide +kernel
theorem d_Sh_store_11 : decode b_Sh_store 11 = .ok (.invokestatic 44, 3) := by decide +kernel
theorem d_Sh_store_14 : decode b_Sh_store 14 = .ok (.ifCond .eq 10, 3) := by decide +kernel
theorem d_Sh_store_17 : decode b_Sh_store 17 = .ok (.iload_n 3, 1) := by decide +kernel
theorem d_Sh_store_18 : decode b_Sh_store 18 = .ok (.invokestatic 67, 3) := by decide +kernel
theorem d_Sh_store_21 : decode b_Sh_store 21 = .ok (.ifCond .ne 5, 3) := by decide +kernel
theorem d_Sh_store_24 : decode b_Sh_store 24 = .ok (.iconst 0, 1) := by decide +kernel
theorem d_Sh_store_25 : decode b_Sh_store 25 = .ok (.ireturn, 1) := by decide +kernel
theorem d_Sh_store_26 : decode b_Sh_store 26 = .ok (.aload_n 0, 1) := by decide +kernel
theorem d_Sh_store_27 : decode b_Sh_store 27 = .ok (.getfield 16, 3) := by decide +kernel
theorem d_Sh_store_30 : decode b_Sh_store 30 = .ok (.aload_n 0, 1) := by decide +kernel
theorem d_Sh_store_31 : decode b_Sh_store 31 = .ok (.getfield 9, 3) := by decide +kernel
theorem d_Sh_store_34 : decode b_Sh_store 34 = .ok (.iload_n 1, 1) := by decide +kernel
theorem d_Sh_store_35 : decode b_Sh_store 35 = .ok (.iconst 3, 1) := by decide +kernel
theorem d_Sh_store_36 : decode b_Sh_store 36 = .ok (.imul, 1) := by decide +kernel
theorem d_Sh_store_37 : decode b_Sh_store 37 = .ok (.iload_n 2, 1) := by decide +kernel
theorem d_Sh_store_38 : decode b_Sh_store 38 = .ok (.iadd, 1) := by decide +kernel
theorem d_Sh_store_39 : decode b_Sh_store 39 = .ok (.iaload, 1) := by decide +kernel
theorem d_Sh_store_40 : decode b_Sh_store 40 = .ok (.invokevirtual 70, 3) := by decide +kernel
theorem d_Sh_store_43 : decode b_Sh_store 43 = .ok (.istore 5, 2) := by decide +kernel
theorem d_Sh_store_45 : decode b_Sh_store 45 = .ok (.iload 5, 2) := by decide +kernel
theorem d_Sh_store_47 : decode b_Sh_store 47 = .ok (.iconst (-1), 1) := by decide +kernel
theorem d_Sh_store_48 : decode b_Sh_store 48 = .ok (.if_icmp .ne 5, 3) := by decide +kernel
theorem d_Sh_store_51 : decode b_Sh_store 51 = .ok (.iconst 0, 1) := by decide +kernel
theorem d_Sh_store_52 : decode b_Sh_store 52 = .ok (.ireturn, 1) := by decide +kernel
theorem d_Sh_store_53 : decode b_Sh_store 53 = .ok (.aload_n 0, 1) := by decide +kernel
theorem d_Sh_store_54 : decode b_Sh_store 54 = .ok (.dup, 1) := by decide +kernel
theorem d_Sh_store_55 : decode b_Sh_store 55 = .ok (.getfield 56, 3) := by decide +kernel
theorem d_Sh_store_58 : decode b_Sh_store 58 = .ok (.iconst 1, 1) := by decide +kernel
theorem d_Sh_store_59 : decode b_Sh_store 59 = .ok (.iadd, 1) := by decide +kernel
theorem d_Sh_store_60 : decode b_Sh_store 60 = .ok (.putfield 56, 3) := by decide +kernel
theorem d_Sh_store_63 : decode b_Sh_store 63 = .ok (.aload_n 0, 1) := by decide +kernel
theorem d_Sh_store_64 : decode b_Sh_store 64 = .ok (.getfield 9, 3) := by decide +kernel
theorem d_Sh_store_67 : decode b_Sh_store 67 = .ok (.iload_n 1, 1) := by decide +kernel
theorem d_Sh_store_68 : decode b_Sh_store 68 = .ok (.iconst 3, 1) := by decide +kernel
theorem d_Sh_store_69 : decode b_Sh_store 69 = .ok (.imul, 1) := by decide +kernel
theorem d_Sh_store_70 : decode b_Sh_store 70 = .ok (.iload 4, 2) := by decide +kernel
theorem d_Sh_store_72 : decode b_Sh_store 72 = .ok (.iadd, 1) := by decide +kernel
theorem d_Sh_store_73 : decode b_Sh_store 73 = .ok (.iaload, 1) := by decide +kernel
theorem d_Sh_store_74 : decode b_Sh_store 74 = .ok (.istore 6, 2) := by decide +kernel
theorem d_Sh_store_76 : decode b_Sh_store 76 = .ok (.aload_n 0, 1) := by decide +kernel
theorem d_Sh_store_77 : decode b_Sh_store 77 = .ok (.getfield 16, 3) := by decide +kernel
theorem d_Sh_store_80 : decode b_Sh_store 80 = .ok (.iload 5, 2) := by decide +kernel
theorem d_Sh_store_82 : decode b_Sh_store 82 = .ok (.iload_n 3, 1) := by decide +kernel
theorem d_Sh_store_83 : decode b_Sh_store 83 = .ok (.iload 6, 2) := by decide +kernel
theorem d_Sh_store_85 : decode b_Sh_store 85 = .ok (.invokevirtual 80, 3) := by decide +kernel
theorem d_Sh_store_88 : decode b_Sh_store 88 = .ok (.aload_n 0, 1) := by decide +kernel
theorem d_Sh_store_89 : decode b_Sh_store 89 = .ok (.iload 6, 2) := by decide +kernel
theorem d_Sh_store_91 : decode b_Sh_store 91 = .ok (.iload_n 1, 1) := by decide +kernel
theorem d_Sh_store_92 : decode b_Sh_store 92 = .ok (.iload 5, 2) := by decide +kernel
theorem d_Sh_store_94 : decode b_Sh_store 94 = .ok (.invokestatic 77, 3) := by decide +kernel
theorem d_Sh_store_97 : decode b_Sh_store 97 = .ok (.invokevirtual 63, 3) := by decide +kernel
theorem d_Sh_store_100 : decode b_Sh_store 100 = .ok (.iconst 1, 1) := by decide +kernel
theorem d_Sh_store_101 : decode b_Sh_store 101 = .ok (.ireturn, 1) := by decide +kernel
set_option maxHeartbeats 4000000 in
set_option maxRecDepth 100000 in
theorem c_Sh_store (l : Launch) (dC : Nat → ClassId) (dI : Nat → Nat → Nat) (ad : Nat → Nat) (cA : ClassId) (sz : Nat) (N : Nat) (a1 a2 a3 a4 : Int32) (u : Mem) (r : Int32) (w : Mem) (h : f_Sh_store N a1 a2 a3 a4 u = some (r, w)) : CtI l y_Sh_store (Cond.code y_Sh_store b_Sh_store 7 (some .boolean) :: lw_gd) 4 95 (dC, dI) cA [.ref (ad 0), .int a1, .int a2, .int a3, .int a4] (wA ad cA) u sz (fun v w1 => v = r ∧ w1 = w ∧ (v = 0 ∨ v = 1)) := by
  refine v_metI (own := R_Sh) [some (.ref (ad 0)), some (.int a1), some (.int a2), some (.int a3), some (.int a4), none, none] rfl (by decide) (Nat.le_of_ble_eq_true rfl) rfl rfl (fun v u h => by rcases h.2.2 with h | h <;> rw [h] <;> rfl) ?_
  intro p e s m args below meth c A Q ret
  unfold f_Sh_store at h
  refine v_iload_n d_Sh_store_0 rfl rfl ?_
  refine v_iload_n d_Sh_store_1 rfl rfl ?_
  obtain ⟨y1, u2, hc3, h⟩ := bd_inv h
  refine vc_Sh_Sh_isRoot hc3 (Nat.le_of_ble_eq_true rfl) (Nat.le_of_ble_eq_true rfl) (Nat.le_of_ble_eq_true rfl) d_Sh_store_2 rfl ?_
  refine v_if_eq 24 d_Sh_store_5 (by decide) rfl (fun c28 => ?_) (fun c28 => ?_)
  · replace h := (if_pos c28).symm.trans h
    refine v_iconst 0 d_Sh_store_24 (by decide) rfl ?_
    obtain ⟨e1, e2⟩ := rt_inv h
    exact ret _ _ _ _ ⟨e1, e2, Or.inl rfl⟩ d_Sh_store_25
  · replace h := (if_neg c28).symm.trans h
    refine v_iload_n d_Sh_store_8 rfl rfl ?_
    refine v_iload d_Sh_store_9 rfl rfl ?_
    obtain ⟨y4, u5, hc6, h⟩ := bd_inv h
    refine vc_Sh_Sh_isRoot hc6 (Nat.le_of_ble_eq_true rfl) (Nat.le_of_ble_eq_true rfl) (Nat.le_of_ble_eq_true rfl) d_Sh_store_11 rfl ?_
    refine v_if_eq 24 d_Sh_store_14 (by decide) rfl (fun c27 => ?_) (fun c27 => ?_)
    · replace h := (if_pos c27).symm.trans h
      refine v_iconst 0 d_Sh_store_24 (by decide) rfl ?_
      obtain ⟨e1, e2⟩ := rt_inv h
      exact ret _ _ _ _ ⟨e1, e2, Or.inl rfl⟩ d_Sh_store_25
    · replace h := (if_neg c27).symm.trans h
      refine v_iload_n d_Sh_store_17 rfl rfl ?_
      obtain ⟨y7, u8, hc9, h⟩ := bd_inv h
      refine vc_Sh_Sh_isField hc9 (Nat.le_of_ble_eq_true rfl) (Nat.le_of_ble_eq_true rfl) (Nat.le_of_ble_eq_true rfl) d_Sh_store_18 rfl ?_
      refine v_if_ne 26 d_Sh_store_21 (by decide) rfl (fun c26 => ?_) (fun c26 => ?_)
      · replace h := (if_pos c26).symm.trans h
        refine v_iconst 0 d_Sh_store_24 (by decide) rfl ?_
        obtain ⟨e1, e2⟩ := rt_inv h
        exact ret _ _ _ _ ⟨e1, e2, Or.inl rfl⟩ d_Sh_store_25
      · replace h := (if_neg c26).symm.trans h
        refine v_aload_n d_Sh_store_26 rfl rfl ?_
        refine vg_Sh_heap d_Sh_store_27 rfl ?_
        refine v_aload_n d_Sh_store_30 rfl rfl ?_
        refine vg_Sh_roots d_Sh_store_31 rfl ?_
        refine v_iload_n d_Sh_store_34 rfl rfl ?_
        refine v_iconst 3 d_Sh_store_35 (by decide) rfl ?_
        refine v_imul d_Sh_store_36 rfl ?_
        refine v_iload_n d_Sh_store_37 rfl rfl ?_
        refine v_iadd d_Sh_store_38 rfl ?_
        obtain ⟨g10, h⟩ := gd_inv h
        refine v_ald 1 (wA_1 ad cA _) d_Sh_store_39 g10 rfl ?_
        obtain ⟨y11, u12, hc13, h⟩ := bd_inv h
        refine vc_Sh_Hp_slotOf hc13 (Nat.le_of_ble_eq_true rfl) (Nat.le_of_ble_eq_true rfl) (Nat.le_of_ble_eq_true rfl) d_Sh_store_40 rfl ?_
        refine v_istore (lo' := [_, _, _, _, _, _, none]) d_Sh_store_43 rfl (by decide) rfl ?_
        refine v_iload d_Sh_store_45 rfl rfl ?_
        refine v_iconst (-1) d_Sh_store_47 (by decide) rfl ?_
        refine v_icmp_ne 53 d_Sh_store_48 (by decide) rfl (fun c25 => ?_) (fun c25 => ?_)
        · replace h := (if_pos c25).symm.trans h
          refine v_iconst 0 d_Sh_store_51 (by decide) rfl ?_
          obtain ⟨e1, e2⟩ := rt_inv h
          exact ret _ _ _ _ ⟨e1, e2, Or.inl rfl⟩ d_Sh_store_52
        · replace h := (if_neg c25).symm.trans h
          refine v_aload_n d_Sh_store_53 rfl rfl ?_
          refine v_dup d_Sh_store_54 rfl rfl ?_
          refine vg_Sh_clock d_Sh_store_55 rfl ?_
          refine v_iconst 1 d_Sh_store_58 (by decide) rfl ?_
          refine v_iadd d_Sh_store_59 rfl ?_
          obtain ⟨u14, eu14, h⟩ := jn_inv h
          refine vp_Sh_clock eu14 d_Sh_store_60 rfl ?_
          refine v_aload_n d_Sh_store_63 rfl rfl ?_
          refine vg_Sh_roots d_Sh_store_64 rfl ?_
          refine v_iload_n d_Sh_store_67 rfl rfl ?_
          refine v_iconst 3 d_Sh_store_68 (by decide) rfl ?_
          refine v_imul d_Sh_store_69 rfl ?_
          refine v_iload d_Sh_store_70 rfl rfl ?_
          refine v_iadd d_Sh_store_72 rfl ?_
          obtain ⟨g15, h⟩ := gd_inv h
          refine v_ald 1 (wA_1 ad cA _) d_Sh_store_73 g15 rfl ?_
          refine v_istore (lo' := [_, _, _, _, _, _, _]) d_Sh_store_74 rfl (by decide) rfl ?_
          refine v_aload_n d_Sh_store_76 rfl rfl ?_
          refine vg_Sh_heap d_Sh_store_77 rfl ?_
          refine v_iload d_Sh_store_80 rfl rfl ?_
          refine v_iload_n d_Sh_store_82 rfl rfl ?_
          refine v_iload d_Sh_store_83 rfl rfl ?_
          obtain ⟨_y16, u17, hc18, h⟩ := bd_inv h
          refine vc_Sh_Hp_setField hc18 (Nat.le_of_ble_eq_true rfl) (Nat.le_of_ble_eq_true rfl) (Nat.le_of_ble_eq_true rfl) d_Sh_store_85 rfl ?_
          refine v_aload_n d_Sh_store_88 rfl rfl ?_
          refine v_iload d_Sh_store_89 rfl rfl ?_
          refine v_iload_n d_Sh_store_91 rfl rfl ?_
          refine v_iload d_Sh_store_92 rfl rfl ?_
          obtain ⟨y19, u20, hc21, h⟩ := bd_inv h
          refine vc_Sh_Hp_nodeOf hc21 (Nat.le_of_ble_eq_true rfl) (Nat.le_of_ble_eq_true rfl) (Nat.le_of_ble_eq_true rfl) d_Sh_store_94 rfl ?_
          obtain ⟨_y22, u23, hc24, h⟩ := bd_inv h
          refine vc_Sh_Sh_carry hc24 (Nat.le_of_ble_eq_true rfl) (Nat.le_of_ble_eq_true rfl) (Nat.le_of_ble_eq_true rfl) d_Sh_store_97 rfl ?_
          refine v_iconst 1 d_Sh_store_100 (by decide) rfl ?_
          obtain ⟨e1, e2⟩ := rt_inv h
          exact ret _ _ _ _ ⟨e1, e2, Or.inr rfl⟩ d_Sh_store_101
theorem vc_La_Sh_store {p : Program} {l : Launch} {e : Env} {fr rc rs rl : Nat} {s : State} {m : MethodId} {args : Array Value} {below : List Frame} {meth : Method} {c : Code} {cells slots : Nat} {Q : State → Prop} {A : Nat → Prop} {cc : ByteArray} {nL : Nat} {dC : Nat → ClassId} {dI : Nat → Nat → Nat} {cA : ClassId} {ad : Nat → Nat} {pc q : Nat} {lo : List (Option Value)} {rest : List Value} {u w : Mem} {r : Int32} {N : Nat} {b0 b1 b2 b3 : Int32} (h : f_Sh_store N b0 b1 b2 b3 u = some (r, w)) (hfr : 4 + 1 ≤ fr) (hrl : 8 + (7 + 11) + 95 ≤ rl) (hrm : (rest.map fun v => v.category).sum ≤ 8) (hd : decode cc pc = .ok (.invokevirtual 23, 3)) (hq : pc + 3 = q) (k : VJ p l e fr rc rs rl s m args below meth c cells slots Q A cc nL R_La (dC, dI) cA (wA ad cA) q lo (.int r :: rest) w) : VJ p l e fr rc rs rl s m args below meth c cells slots Q A cc nL R_La (dC, dI) cA (wA ad cA) pc lo (.int b3 :: .int b2 :: .int b1 :: .int b0 :: .ref (ad 0) :: rest) u :=
  v_callVI (As := [.int b0, .int b1, .int b2, .int b3]) (rest := rest) (fun sz => c_Sh_store l dC dI ad cA sz N b0 b1 b2 b3 u r w h) tw_198 tw_199 tw_200 0 (wA_0 ad cA u) rfl rfl tw_201 tw_24 4 rfl (by decide +kernel) hfr hrl rfl hrm hd hq (fun v w1 hE => by obtain ⟨rfl, rfl, -⟩ := hE; exact k)
theorem d_Sh_move_0 : decode b_Sh_move 0 = .ok (.iload_n 1, 1) := by decide +kernel
theorem d_Sh_move_1 : decode b_Sh_move 1 = .ok (.iload_n 2, 1) := by decide +kernel
theorem d_Sh_move_2 : decode b_Sh_move 2 = .ok (.invokestatic 44, 3) := by decide +kernel
theorem d_Sh_move_5 : decode b_Sh_move 5 = .ok (.ifCond .eq 17, 3) := by decide +kernel
theorem d_Sh_move_8 : decode b_Sh_move 8 = .ok (.iload_n 3, 1) := by decide +kernel
theorem d_Sh_move_9 : decode b_Sh_move 9 = .ok (.iload 4, 2) := by decide +kernel
theorem d_Sh_move_11 : decode b_Sh_move 11 = .ok (.invokestatic 44, 3) := by decide +kernel
theorem d_Sh_move_14 : decode b_Sh_move 14 = .ok (.ifCond .eq 8, 3) := by decide +kernel
theorem d_Sh_move_17 : decode b_Sh_move 17 = .ok (.iload_n 1, 1) := by decide +kernel
theorem d_Sh_move_18 : decode b_Sh_move 18 = .ok (.iload_n 3, 1) := by decide +kernel
theorem d_Sh_move_19 : decode b_Sh_move 19 = .ok (.if_icmp .ne 5, 3) := by decide +kernel
theorem d_Sh_move_22 : decode b_Sh_move 22 = .ok (.iconst 0, 1) := by decide +kernel
theorem d_Sh_move_23 : decode b_Sh_move 23 = .ok (.ireturn, 1) := by decide +kernel
theorem d_Sh_move_24 : decode b_Sh_move 24 = .ok (.aload_n 0, 1) := by decide +kernel
theorem d_Sh_move_25 : decode b_Sh_move 25 = .ok (.dup, 1) := by decide +kernel
theorem d_Sh_move_26 : decode b_Sh_move 26 = .ok (.getfield 56, 3) := by decide +kernel
theorem d_Sh_move_29 : decode b_Sh_move 29 = .ok (.iconst 1, 1) := by decide +kernel
theorem d_Sh_move_30 : decode b_Sh_move 30 = .ok (.iadd, 1) := by decide +kernel
theorem d_Sh_move_31 : decode b_Sh_move 31 = .ok (.putfield 56, 3) := by decide +kernel
theorem d_Sh_move_34 : decode b_Sh_move 34 = .ok (.aload_n 0, 1) := by decide +kernel
theorem d_Sh_move_35 : decode b_Sh_move 35 = .ok (.getfield 9, 3) := by decide +kernel
theorem d_Sh_move_38 : decode b_Sh_move 38 = .ok (.iload_n 1, 1) := by decide +kernel
theorem d_Sh_move_39 : decode b_Sh_move 39 = .ok (.iconst 3, 1) := by decide +kernel
theorem d_Sh_move_40 : decode b_Sh_move 40 = .ok (.imul, 1) := by decide +kernel
theorem d_Sh_move_41 : decode b_Sh_move 41 = .ok (.iload_n 2, 1) := by decide +kernel
theorem d_Sh_move_42 : decode b_Sh_move 42 = .ok (.iadd, 1) := by decide +kernel
theorem d_Sh_move_43 : decode b_Sh_move 43 = .ok (.iaload, 1) := by decide +kernel
theorem d_Sh_move_44 : decode b_Sh_move 44 = .ok (.istore 5, 2) := by decide +kernel
theorem d_Sh_move_46 : decode b_Sh_move 46 = .ok (.aload_n 0, 1) := by decide +kernel
theorem d_Sh_move_47 : decode b_Sh_move 47 = .ok (.getfield 9, 3) := by decide +kernel
theorem d_Sh_move_50 : decode b_Sh_move 50 = .ok (.iload_n 3, 1) := by decide +kernel
theorem d_Sh_move_51 : decode b_Sh_move 51 = .ok (.iconst 3, 1) := by decide +kernel
theorem d_Sh_move_52 : decode b_Sh_move 52 = .ok (.imul, 1) := by decide +kernel
theorem d_Sh_move_53 : decode b_Sh_move 53 = .ok (.iload 4, 2) := by decide +kernel
theorem d_Sh_move_55 : decode b_Sh_move 55 = .ok (.iadd, 1) := by decide +kernel
theorem d_Sh_move_56 : decode b_Sh_move 56 = .ok (.iload 5, 2) := by decide +kernel
theorem d_Sh_move_58 : decode b_Sh_move 58 = .ok (.iastore, 1) := by decide +kernel
theorem d_Sh_move_59 : decode b_Sh_move 59 = .ok (.aload_n 0, 1) := by decide +kernel
theorem d_Sh_move_60 : decode b_Sh_move 60 = .ok (.iload 5, 2) := by decide +kernel
theorem d_Sh_move_62 : decode b_Sh_move 62 = .ok (.iload_n 1, 1) := by decide +kernel
theorem d_Sh_move_63 : decode b_Sh_move 63 = .ok (.iload_n 3, 1) := by decide +kernel
theorem d_Sh_move_64 : decode b_Sh_move 64 = .ok (.invokevirtual 63, 3) := by decide +kernel
theorem d_Sh_move_67 : decode b_Sh_move 67 = .ok (.iconst 1, 1) := by decide +kernel
theorem d_Sh_move_68 : decode b_Sh_move 68 = .ok (.ireturn, 1) := by decide +kernel
set_option maxHeartbeats 4000000 in
set_option maxRecDepth 100000 in
theorem c_Sh_move (l : Launch) (dC : Nat → ClassId) (dI : Nat → Nat → Nat) (ad : Nat → Nat) (cA : ClassId) (sz : Nat) (N : Nat) (a1 a2 a3 a4 : Int32) (u : Mem) (r : Int32) (w : Mem) (h : f_Sh_move N a1 a2 a3 a4 u = some (r, w)) : CtI l y_Sh_move (Cond.code y_Sh_move b_Sh_move 6 (some .boolean) :: lw_gd) 4 95 (dC, dI) cA [.ref (ad 0), .int a1, .int a2, .int a3, .int a4] (wA ad cA) u sz (fun v w1 => v = r ∧ w1 = w ∧ (v = 0 ∨ v = 1)) := by
  refine v_metI (own := R_Sh) [some (.ref (ad 0)), some (.int a1), some (.int a2), some (.int a3), some (.int a4), none] rfl (by decide) (Nat.le_of_ble_eq_true rfl) rfl rfl (fun v u h => by rcases h.2.2 with h | h <;> rw [h] <;> rfl) ?_
  intro p e s m args below meth c A Q ret
  unfold f_Sh_move at h
  refine v_iload_n d_Sh_move_0 rfl rfl ?_
  refine v_iload_n d_Sh_move_1 rfl rfl ?_
  obtain ⟨y1, u2, hc3, h⟩ := bd_inv h
  refine vc_Sh_Sh_isRoot hc3 (Nat.le_of_ble_eq_true rfl) (Nat.le_of_ble_eq_true rfl) (Nat.le_of_ble_eq_true rfl) d_Sh_move_2 rfl ?_
  refine v_if_eq 22 d_Sh_move_5 (by decide) rfl (fun c16 => ?_) (fun c16 => ?_)
  · replace h := (if_pos c16).symm.trans h
    refine v_iconst 0 d_Sh_move_22 (by decide) rfl ?_
    obtain ⟨e1, e2⟩ := rt_inv h
    exact ret _ _ _ _ ⟨e1, e2, Or.inl rfl⟩ d_Sh_move_23
  · replace h := (if_neg c16).symm.trans h
    refine v_iload_n d_Sh_move_8 rfl rfl ?_
    refine v_iload d_Sh_move_9 rfl rfl ?_
    obtain ⟨y4, u5, hc6, h⟩ := bd_inv h
    refine vc_Sh_Sh_isRoot hc6 (Nat.le_of_ble_eq_true rfl) (Nat.le_of_ble_eq_true rfl) (Nat.le_of_ble_eq_true rfl) d_Sh_move_11 rfl ?_
    refine v_if_eq 22 d_Sh_move_14 (by decide) rfl (fun c15 => ?_) (fun c15 => ?_)
    · replace h := (if_pos c15).symm.trans h
      refine v_iconst 0 d_Sh_move_22 (by decide) rfl ?_
      obtain ⟨e1, e2⟩ := rt_inv h
      exact ret _ _ _ _ ⟨e1, e2, Or.inl rfl⟩ d_Sh_move_23
    · replace h := (if_neg c15).symm.trans h
      refine v_iload_n d_Sh_move_17 rfl rfl ?_
      refine v_iload_n d_Sh_move_18 rfl rfl ?_
      refine v_icmp_ne 24 d_Sh_move_19 (by decide) rfl (fun c14 => ?_) (fun c14 => ?_)
      · replace h := (if_pos c14).symm.trans h
        refine v_iconst 0 d_Sh_move_22 (by decide) rfl ?_
        obtain ⟨e1, e2⟩ := rt_inv h
        exact ret _ _ _ _ ⟨e1, e2, Or.inl rfl⟩ d_Sh_move_23
      · replace h := (if_neg c14).symm.trans h
        refine v_aload_n d_Sh_move_24 rfl rfl ?_
        refine v_dup d_Sh_move_25 rfl rfl ?_
        refine vg_Sh_clock d_Sh_move_26 rfl ?_
        refine v_iconst 1 d_Sh_move_29 (by decide) rfl ?_
        refine v_iadd d_Sh_move_30 rfl ?_
        obtain ⟨u7, eu7, h⟩ := jn_inv h
        refine vp_Sh_clock eu7 d_Sh_move_31 rfl ?_
        refine v_aload_n d_Sh_move_34 rfl rfl ?_
        refine vg_Sh_roots d_Sh_move_35 rfl ?_
        refine v_iload_n d_Sh_move_38 rfl rfl ?_
        refine v_iconst 3 d_Sh_move_39 (by decide) rfl ?_
        refine v_imul d_Sh_move_40 rfl ?_
        refine v_iload_n d_Sh_move_41 rfl rfl ?_
        refine v_iadd d_Sh_move_42 rfl ?_
        obtain ⟨g8, h⟩ := gd_inv h
        refine v_ald 1 (wA_1 ad cA _) d_Sh_move_43 g8 rfl ?_
        refine v_istore (lo' := [_, _, _, _, _, _]) d_Sh_move_44 rfl (by decide) rfl ?_
        refine v_aload_n d_Sh_move_46 rfl rfl ?_
        refine vg_Sh_roots d_Sh_move_47 rfl ?_
        refine v_iload_n d_Sh_move_50 rfl rfl ?_
        refine v_iconst 3 d_Sh_move_51 (by decide) rfl ?_
        refine v_imul d_Sh_move_52 rfl ?_
        refine v_iload d_Sh_move_53 rfl rfl ?_
        refine v_iadd d_Sh_move_55 rfl ?_
        refine v_iload d_Sh_move_56 rfl rfl ?_
        obtain ⟨g9, h⟩ := gd_inv h
        obtain ⟨u10, eu10, h⟩ := jn_inv h
        refine v_ast 1 (wA_1 ad cA _) (ws_1 ad cA _ _ _) eu10 d_Sh_move_58 g9 rfl ?_
        refine v_aload_n d_Sh_move_59 rfl rfl ?_
        refine v_iload d_Sh_move_60 rfl rfl ?_
        refine v_iload_n d_Sh_move_62 rfl rfl ?_
        refine v_iload_n d_Sh_move_63 rfl rfl ?_
        obtain ⟨_y11, u12, hc13, h⟩ := bd_inv h
        refine vc_Sh_Sh_carry hc13 (Nat.le_of_ble_eq_true rfl) (Nat.le_of_ble_eq_true rfl) (Nat.le_of_ble_eq_true rfl) d_Sh_move_64 rfl ?_
        refine v_iconst 1 d_Sh_move_67 (by decide) rfl ?_
        obtain ⟨e1, e2⟩ := rt_inv h
        exact ret _ _ _ _ ⟨e1, e2, Or.inr rfl⟩ d_Sh_move_68
theorem vc_La_Sh_move {p : Program} {l : Launch} {e : Env} {fr rc rs rl : Nat} {s : State} {m : MethodId} {args : Array Value} {below : List Frame} {meth : Method} {c : Code} {cells slots : Nat} {Q : State → Prop} {A : Nat → Prop} {cc : ByteArray} {nL : Nat} {dC : Nat → ClassId} {dI : Nat → Nat → Nat} {cA : ClassId} {ad : Nat → Nat} {pc q : Nat} {lo : List (Option Value)} {rest : List Value} {u w : Mem} {r : Int32} {N : Nat} {b0 b1 b2 b3 : Int32} (h : f_Sh_move N b0 b1 b2 b3 u = some (r, w)) (hfr : 4 + 1 ≤ fr) (hrl : 8 + (6 + 11) + 95 ≤ rl) (hrm : (rest.map fun v => v.category).sum ≤ 8) (hd : decode cc pc = .ok (.invokevirtual 28, 3)) (hq : pc + 3 = q) (k : VJ p l e fr rc rs rl s m args below meth c cells slots Q A cc nL R_La (dC, dI) cA (wA ad cA) q lo (.int r :: rest) w) : VJ p l e fr rc rs rl s m args below meth c cells slots Q A cc nL R_La (dC, dI) cA (wA ad cA) pc lo (.int b3 :: .int b2 :: .int b1 :: .int b0 :: .ref (ad 0) :: rest) u :=
  v_callVI (As := [.int b0, .int b1, .int b2, .int b3]) (rest := rest) (fun sz => c_Sh_move l dC dI ad cA sz N b0 b1 b2 b3 u r w h) tw_206 tw_207 tw_208 0 (wA_0 ad cA u) rfl rfl tw_209 tw_24 4 rfl (by decide +kernel) hfr hrl rfl hrm hd hq (fun v w1 hE => by obtain ⟨rfl, rfl, -⟩ := hE; exact k)
theorem d_Sh_drop_0 : decode b_Sh_drop 0 = .ok (.iload_n 1, 1) := by decide +kernel
theorem d_Sh_drop_1 : decode b_Sh_drop 1 = .ok (.iload_n 2, 1) := by decide +kernel
theorem d_Sh_drop_2 : decode b_Sh_drop 2 = .ok (.invokestatic 44, 3) := by decide +kernel
theorem d_Sh_drop_5 : decode b_Sh_drop 5 = .ok (.ifCond .ne 5, 3) := by decide +kernel
theorem d_Sh_drop_8 : decode b_Sh_drop 8 = .ok (.iconst 0, 1) := by decide +kernel
theorem d_Sh_drop_9 : decode b_Sh_drop 9 = .ok (.ireturn, 1) := by decide +kernel
theorem d_Sh_drop_10 : decode b_Sh_drop 10 = .ok (.aload_n 0, 1) := by decide +kernel
theorem d_Sh_drop_11 : decode b_Sh_drop 11 = .ok (.dup, 1) := by decide +kernel
theorem d_Sh_drop_12 : decode b_Sh_drop 12 = .ok (.getfield 56, 3) := by decide +kernel
theorem d_Sh_drop_15 : decode b_Sh_drop 15 = .ok (.iconst 1, 1) := by decide +kernel
theorem d_Sh_drop_16 : decode b_Sh_drop 16 = .ok (.iadd, 1) := by decide +kernel
theorem d_Sh_drop_17 : decode b_Sh_drop 17 = .ok (.putfield 56, 3) := by decide +kernel
theorem d_Sh_drop_20 : decode b_Sh_drop 20 = .ok (.aload_n 0, 1) := by decide +kernel
theorem d_Sh_drop_21 : decode b_Sh_drop 21 = .ok (.getfield 9, 3) := by decide +kernel
theorem d_Sh_drop_24 : decode b_Sh_drop 24 = .ok (.iload_n 1, 1) := by decide +kernel
theorem d_Sh_drop_25 : decode b_Sh_drop 25 = .ok (.iconst 3, 1) := by decide +kernel
theorem d_Sh_drop_26 : decode b_Sh_drop 26 = .ok (.imul, 1) := by decide +kernel
theorem d_Sh_drop_27 : decode b_Sh_drop 27 = .ok (.iload_n 2, 1) := by decide +kernel
theorem d_Sh_drop_28 : decode b_Sh_drop 28 = .ok (.iadd, 1) := by decide +kernel
theorem d_Sh_drop_29 : decode b_Sh_drop 29 = .ok (.iconst 0, 1) := by decide +kernel
theorem d_Sh_drop_30 : decode b_Sh_drop 30 = .ok (.iastore, 1) := by decide +kernel
theorem d_Sh_drop_31 : decode b_Sh_drop 31 = .ok (.iconst 1, 1) := by decide +kernel
theorem d_Sh_drop_32 : decode b_Sh_drop 32 = .ok (.ireturn, 1) := by decide +kernel
set_option maxHeartbeats 4000000 in
set_option maxRecDepth 100000 in
theorem c_Sh_drop (l : Launch) (dC : Nat → ClassId) (dI : Nat → Nat → Nat) (ad : Nat → Nat) (cA : ClassId) (sz : Nat) (N : Nat) (a1 a2 : Int32) (u : Mem) (r : Int32) (w : Mem) (h : f_Sh_drop N a1 a2 u = some (r, w)) : CtI l y_Sh_drop (Cond.code y_Sh_drop b_Sh_drop 3 (some .boolean) :: lw_gd) 2 41 (dC, dI) cA [.ref (ad 0), .int a1, .int a2] (wA ad cA) u sz (fun v w1 => v = r ∧ w1 = w ∧ (v = 0 ∨ v = 1)) := by
  refine v_metI (own := R_Sh) [some (.ref (ad 0)), some (.int a1), some (.int a2)] rfl (by decide) (Nat.le_of_ble_eq_true rfl) rfl rfl (fun v u h => by rcases h.2.2 with h | h <;> rw [h] <;> rfl) ?_
  intro p e s m args below meth c A Q ret
  unfold f_Sh_drop at h
  refine v_iload_n d_Sh_drop_0 rfl rfl ?_
  refine v_iload_n d_Sh_drop_1 rfl rfl ?_
  obtain ⟨y1, u2, hc3, h⟩ := bd_inv h
  refine vc_Sh_Sh_isRoot hc3 (Nat.le_of_ble_eq_true rfl) (Nat.le_of_ble_eq_true rfl) (Nat.le_of_ble_eq_true rfl) d_Sh_drop_2 rfl ?_
  refine v_if_ne 10 d_Sh_drop_5 (by decide) rfl (fun c7 => ?_) (fun c7 => ?_)
  · replace h := (if_pos c7).symm.trans h
    refine v_iconst 0 d_Sh_drop_8 (by decide) rfl ?_
    obtain ⟨e1, e2⟩ := rt_inv h
    exact ret _ _ _ _ ⟨e1, e2, Or.inl rfl⟩ d_Sh_drop_9
  · replace h := (if_neg c7).symm.trans h
    refine v_aload_n d_Sh_drop_10 rfl rfl ?_
    refine v_dup d_Sh_drop_11 rfl rfl ?_
    refine vg_Sh_clock d_Sh_drop_12 rfl ?_
    refine v_iconst 1 d_Sh_drop_15 (by decide) rfl ?_
    refine v_iadd d_Sh_drop_16 rfl ?_
    obtain ⟨u4, eu4, h⟩ := jn_inv h
    refine vp_Sh_clock eu4 d_Sh_drop_17 rfl ?_
    refine v_aload_n d_Sh_drop_20 rfl rfl ?_
    refine vg_Sh_roots d_Sh_drop_21 rfl ?_
    refine v_iload_n d_Sh_drop_24 rfl rfl ?_
    refine v_iconst 3 d_Sh_drop_25 (by decide) rfl ?_
    refine v_imul d_Sh_drop_26 rfl ?_
    refine v_iload_n d_Sh_drop_27 rfl rfl ?_
    refine v_iadd d_Sh_drop_28 rfl ?_
    refine v_iconst 0 d_Sh_drop_29 (by decide) rfl ?_
    obtain ⟨g5, h⟩ := gd_inv h
    obtain ⟨u6, eu6, h⟩ := jn_inv h
    refine v_ast 1 (wA_1 ad cA _) (ws_1 ad cA _ _ _) eu6 d_Sh_drop_30 g5 rfl ?_
    refine v_iconst 1 d_Sh_drop_31 (by decide) rfl ?_
    obtain ⟨e1, e2⟩ := rt_inv h
    exact ret _ _ _ _ ⟨e1, e2, Or.inr rfl⟩ d_Sh_drop_32
theorem vc_La_Sh_drop {p : Program} {l : Launch} {e : Env} {fr rc rs rl : Nat} {s : State} {m : MethodId} {args : Array Value} {below : List Frame} {meth : Method} {c : Code} {cells slots : Nat} {Q : State → Prop} {A : Nat → Prop} {cc : ByteArray} {nL : Nat} {dC : Nat → ClassId} {dI : Nat → Nat → Nat} {cA : ClassId} {ad : Nat → Nat} {pc q : Nat} {lo : List (Option Value)} {rest : List Value} {u w : Mem} {r : Int32} {N : Nat} {b0 b1 : Int32} (h : f_Sh_drop N b0 b1 u = some (r, w)) (hfr : 2 + 1 ≤ fr) (hrl : 8 + (3 + 11) + 41 ≤ rl) (hrm : (rest.map fun v => v.category).sum ≤ 8) (hd : decode cc pc = .ok (.invokevirtual 32, 3)) (hq : pc + 3 = q) (k : VJ p l e fr rc rs rl s m args below meth c cells slots Q A cc nL R_La (dC, dI) cA (wA ad cA) q lo (.int r :: rest) w) : VJ p l e fr rc rs rl s m args below meth c cells slots Q A cc nL R_La (dC, dI) cA (wA ad cA) pc lo (.int b1 :: .int b0 :: .ref (ad 0) :: rest) u :=
  v_callVI (As := [.int b0, .int b1]) (rest := rest) (fun sz => c_Sh_drop l dC dI ad cA sz N b0 b1 u r w h) tw_210 tw_211 tw_212 0 (wA_0 ad cA u) rfl rfl tw_213 tw_24 2 rfl (by decide +kernel) hfr hrl rfl hrm hd hq (fun v w1 hE => by obtain ⟨rfl, rfl, -⟩ := hE; exact k)
theorem d_Qu_size_0 : decode b_Qu_size 0 = .ok (.aload_n 0, 1) := by decide +kernel
theorem d_Qu_size_1 : decode b_Qu_size 1 = .ok (.getfield 15, 3) := by decide +kernel
theorem d_Qu_size_4 : decode b_Qu_size 4 = .ok (.ireturn, 1) := by decide +kernel
set_option maxHeartbeats 4000000 in
set_option maxRecDepth 100000 in
theorem c_Qu_size (l : Launch) (dC : Nat → ClassId) (dI : Nat → Nat → Nat) (ad : Nat → Nat) (cA : ClassId) (sz : Nat) (N : Nat) (u : Mem) (r : Int32) (w : Mem) (h : f_Qu_size N u = some (r, w)) : CtI l y_Qu_size (Cond.code y_Qu_size b_Qu_size 1 (some .int) :: lw_gd) 0 0 (dC, dI) cA [.ref (ad 10)] (wA ad cA) u sz (fun v w1 => v = r ∧ w1 = w) := by
  refine v_metI (own := R_Qu) [some (.ref (ad 10))] rfl (by decide) (Nat.le_of_ble_eq_true rfl) rfl rfl (fun v u h => rfl) ?_
  intro p e s m args below meth c A Q ret
  unfold f_Qu_size at h
  refine v_aload_n d_Qu_size_0 rfl rfl ?_
  refine vg_Qu_size d_Qu_size_1 rfl ?_
  obtain ⟨e1, e2⟩ := rt_inv h
  exact ret _ _ _ _ ⟨e1, e2⟩ d_Qu_size_4
theorem vc_Sh_Qu_size {p : Program} {l : Launch} {e : Env} {fr rc rs rl : Nat} {s : State} {m : MethodId} {args : Array Value} {below : List Frame} {meth : Method} {c : Code} {cells slots : Nat} {Q : State → Prop} {A : Nat → Prop} {cc : ByteArray} {nL : Nat} {dC : Nat → ClassId} {dI : Nat → Nat → Nat} {cA : ClassId} {ad : Nat → Nat} {pc q : Nat} {lo : List (Option Value)} {rest : List Value} {u w : Mem} {r : Int32} {N : Nat} (h : f_Qu_size N u = some (r, w)) (hfr : 0 + 1 ≤ fr) (hrl : 8 + (1 + 11) + 0 ≤ rl) (hrm : (rest.map fun v => v.category).sum ≤ 8) (hd : decode cc pc = .ok (.invokevirtual 83, 3)) (hq : pc + 3 = q) (k : VJ p l e fr rc rs rl s m args below meth c cells slots Q A cc nL R_Sh (dC, dI) cA (wA ad cA) q lo (.int r :: rest) w) : VJ p l e fr rc rs rl s m args below meth c cells slots Q A cc nL R_Sh (dC, dI) cA (wA ad cA) pc lo (.ref (ad 10) :: rest) u :=
  v_callVI (As := []) (rest := rest) (fun sz => c_Qu_size l dC dI ad cA sz N u r w h) tw_218 tw_219 tw_220 10 (wA_10 ad cA u) rfl rfl tw_221 tw_27 0 rfl (by decide +kernel) hfr hrl rfl hrm hd hq (fun v w1 hE => by obtain ⟨rfl, rfl⟩ := hE; exact k)
theorem d_Xt_countOf_0 : decode b_Xt_countOf 0 = .ok (.iconst 0, 1) := by decide +kernel
theorem d_Xt_countOf_1 : decode b_Xt_countOf 1 = .ok (.istore_n 2, 1) := by decide +kernel
theorem d_Xt_countOf_2 : decode b_Xt_countOf 2 = .ok (.iconst 0, 1) := by decide +kernel
theorem d_Xt_countOf_3 : decode b_Xt_countOf 3 = .ok (.istore_n 3, 1) := by decide +kernel
theorem d_Xt_countOf_4 : decode b_Xt_countOf 4 = .ok (.iload_n 3, 1) := by decide +kernel
theorem d_Xt_countOf_5 : decode b_Xt_countOf 5 = .ok (.aload_n 0, 1) := by decide +kernel
theorem d_Xt_countOf_6 : decode b_Xt_countOf 6 = .ok (.getfield 21, 3) := by decide +kernel
theorem d_Xt_countOf_9 : decode b_Xt_countOf 9 = .ok (.if_icmp .ge 22, 3) := by decide +kernel
theorem d_Xt_countOf_12 : decode b_Xt_countOf 12 = .ok (.aload_n 0, 1) := by decide +kernel
theorem d_Xt_countOf_13 : decode b_Xt_countOf 13 = .ok (.getfield 11, 3) := by decide +kernel
theorem d_Xt_countOf_16 : decode b_Xt_countOf 16 = .ok (.iload_n 3, 1) := by decide +kernel
theorem d_Xt_countOf_17 : decode b_Xt_countOf 17 = .ok (.iaload, 1) := by decide +kernel
theorem d_Xt_countOf_18 : decode b_Xt_countOf 18 = .ok (.iload_n 1, 1) := by decide +kernel
theorem d_Xt_countOf_19 : decode b_Xt_countOf 19 = .ok (.if_icmp .ne 6, 3) := by decide +kernel
theorem d_Xt_countOf_22 : decode b_Xt_countOf 22 = .ok (.iinc 2 1, 3) := by decide +kernel
theorem d_Xt_countOf_25 : decode b_Xt_countOf 25 = .ok (.iinc 3 1, 3) := by decide +kernel
theorem d_Xt_countOf_28 : decode b_Xt_countOf 28 = .ok (.goto (-24), 3) := by decide +kernel
theorem d_Xt_countOf_31 : decode b_Xt_countOf 31 = .ok (.iload_n 2, 1) := by decide +kernel
theorem d_Xt_countOf_32 : decode b_Xt_countOf 32 = .ok (.ireturn, 1) := by decide +kernel
set_option maxHeartbeats 4000000 in
set_option maxRecDepth 100000 in
theorem c_Xt_countOf (l : Launch) (dC : Nat → ClassId) (dI : Nat → Nat → Nat) (ad : Nat → Nat) (cA : ClassId) (sz : Nat) (N : Nat) (a1 : Int32) (u : Mem) (r : Int32) (w : Mem) (h : f_Xt_countOf N a1 u = some (r, w)) : CtI l y_Xt_countOf (Cond.code y_Xt_countOf b_Xt_countOf 4 (some .int) :: lw_gd) 0 0 (dC, dI) cA [.ref (ad 6), .int a1] (wA ad cA) u sz (fun v w1 => v = r ∧ w1 = w) := by
  refine v_metI (own := R_Xt) [some (.ref (ad 6)), some (.int a1), none, none] rfl (by decide) (Nat.le_of_ble_eq_true rfl) rfl rfl (fun v u h => rfl) ?_
  intro p e s m args below meth c A Q ret
  unfold f_Xt_countOf at h
  refine v_iconst 0 d_Xt_countOf_0 (by decide) rfl ?_
  refine v_istore_n (lo' := [_, _, _, none]) d_Xt_countOf_1 rfl (by decide) rfl ?_
  refine v_iconst 0 d_Xt_countOf_2 (by decide) rfl ?_
  refine v_istore_n (lo' := [_, _, _, _]) d_Xt_countOf_3 rfl (by decide) rfl ?_
  have L4 : ∀ (κ : Int32 → Mem → Rs), (∀ (x8 : Int32) (u9 : Mem), κ x8 u9 = some (r, w) → VJ p l e 0 0 0 0 s m args below meth c 0 0 Q A b_Xt_countOf 4 R_Xt (dC, dI) cA (wA ad cA) 31 [none, none, some (.int x8), none] [] u9) → ∀ (n : Nat) (x1 x2 x3 : Int32) (u4 : Mem), k_Xt_countOf_4 N κ n x1 x2 x3 u4 = some (r, w) → VJ p l e 0 0 0 0 s m args below meth c 0 0 Q A b_Xt_countOf 4 R_Xt (dC, dI) cA (wA ad cA) 4 [some (.ref (ad 6)), some (.int x1), some (.int x2), some (.int x3)] [] u4 := by
    intro κ hκ n
    induction n with
    | zero =>
      intro x1 x2 x3 u4 h
      exact no_ns h
    | succ n ih =>
      intro x1 x2 x3 u4 h
      unfold k_Xt_countOf_4 at h
      refine v_iload_n d_Xt_countOf_4 rfl rfl ?_
      refine v_aload_n d_Xt_countOf_5 rfl rfl ?_
      refine vg_Xt_size d_Xt_countOf_6 rfl ?_
      refine v_icmp_ge 31 d_Xt_countOf_9 (by decide) rfl (fun c7 => ?_) (fun c7 => ?_)
      · replace h := (if_pos c7).symm.trans h
        refine v_drop 0 (lo' := [none, _, _, _]) rfl ?_
        refine v_drop 1 (lo' := [none, none, _, _]) rfl ?_
        refine v_drop 3 (lo' := [none, none, _, none]) rfl ?_
        exact hκ _ _ h
      · replace h := (if_neg c7).symm.trans h
        refine v_aload_n d_Xt_countOf_12 rfl rfl ?_
        refine vg_Xt_nodes d_Xt_countOf_13 rfl ?_
        refine v_iload_n d_Xt_countOf_16 rfl rfl ?_
        obtain ⟨g5, h⟩ := gd_inv h
        refine v_ald 7 (wA_7 ad cA _) d_Xt_countOf_17 g5 rfl ?_
        refine v_iload_n d_Xt_countOf_18 rfl rfl ?_
        refine v_icmp_ne 25 d_Xt_countOf_19 (by decide) rfl (fun c6 => ?_) (fun c6 => ?_)
        · replace h := (if_pos c6).symm.trans h
          refine v_iinc (lo' := [_, _, _, _]) 1 d_Xt_countOf_22 (by decide) rfl rfl (by decide) rfl ?_
          refine v_iinc (lo' := [_, _, _, _]) 1 d_Xt_countOf_25 (by decide) rfl rfl (by decide) rfl ?_
          refine v_goto 4 d_Xt_countOf_28 (by decide) ?_
          exact ih _ _ _ _ h
        · replace h := (if_neg c6).symm.trans h
          refine v_iinc (lo' := [_, _, _, _]) 1 d_Xt_countOf_25 (by decide) rfl rfl (by decide) rfl ?_
          refine v_goto 4 d_Xt_countOf_28 (by decide) ?_
          exact ih _ _ _ _ h
  refine L4 _ (fun x8 u9 h => ?_) N _ _ _ _ h
  refine v_iload_n d_Xt_countOf_31 rfl rfl ?_
  obtain ⟨e1, e2⟩ := rt_inv h
  exact ret _ _ _ _ ⟨e1, e2⟩ d_Xt_countOf_32
theorem vc_Sh_Xt_countOf {p : Program} {l : Launch} {e : Env} {fr rc rs rl : Nat} {s : State} {m : MethodId} {args : Array Value} {below : List Frame} {meth : Method} {c : Code} {cells slots : Nat} {Q : State → Prop} {A : Nat → Prop} {cc : ByteArray} {nL : Nat} {dC : Nat → ClassId} {dI : Nat → Nat → Nat} {cA : ClassId} {ad : Nat → Nat} {pc q : Nat} {lo : List (Option Value)} {rest : List Value} {u w : Mem} {r : Int32} {N : Nat} {b0 : Int32} (h : f_Xt_countOf N b0 u = some (r, w)) (hfr : 0 + 1 ≤ fr) (hrl : 8 + (4 + 11) + 0 ≤ rl) (hrm : (rest.map fun v => v.category).sum ≤ 8) (hd : decode cc pc = .ok (.invokevirtual 87, 3)) (hq : pc + 3 = q) (k : VJ p l e fr rc rs rl s m args below meth c cells slots Q A cc nL R_Sh (dC, dI) cA (wA ad cA) q lo (.int r :: rest) w) : VJ p l e fr rc rs rl s m args below meth c cells slots Q A cc nL R_Sh (dC, dI) cA (wA ad cA) pc lo (.int b0 :: .ref (ad 6) :: rest) u :=
  v_callVI (As := [.int b0]) (rest := rest) (fun sz => c_Xt_countOf l dC dI ad cA sz N b0 u r w h) tw_222 tw_223 tw_224 6 (wA_6 ad cA u) rfl rfl tw_225 tw_26 1 rfl (by decide +kernel) hfr hrl rfl hrm hd hq (fun v w1 hE => by obtain ⟨rfl, rfl⟩ := hE; exact k)
theorem d_Hp_numberAt_0 : decode b_Hp_numberAt 0 = .ok (.aload_n 0, 1) := by decide +kernel
theorem d_Hp_numberAt_1 : decode b_Hp_numberAt 1 = .ok (.getfield 9, 3) := by decide +kernel
theorem d_Hp_numberAt_4 : decode b_Hp_numberAt 4 = .ok (.iload_n 1, 1) := by decide +kernel
theorem d_Hp_numberAt_5 : decode b_Hp_numberAt 5 = .ok (.iaload, 1) := by decide +kernel
theorem d_Hp_numberAt_6 : decode b_Hp_numberAt 6 = .ok (.ireturn, 1) := by decide +kernel
set_option maxHeartbeats 4000000 in
set_option maxRecDepth 100000 in
theorem c_Hp_numberAt (l : Launch) (dC : Nat → ClassId) (dI : Nat → Nat → Nat) (ad : Nat → Nat) (cA : ClassId) (sz : Nat) (N : Nat) (a1 : Int32) (u : Mem) (r : Int32) (w : Mem) (h : f_Hp_numberAt N a1 u = some (r, w)) : CtI l y_Hp_numberAt (Cond.code y_Hp_numberAt b_Hp_numberAt 2 (some .int) :: lw_gd) 0 0 (dC, dI) cA [.ref (ad 2), .int a1] (wA ad cA) u sz (fun v w1 => v = r ∧ w1 = w) := by
  refine v_metI (own := R_Hp) [some (.ref (ad 2)), some (.int a1)] rfl (by decide) (Nat.le_of_ble_eq_true rfl) rfl rfl (fun v u h => rfl) ?_
  intro p e s m args below meth c A Q ret
  unfold f_Hp_numberAt at h
  refine v_aload_n d_Hp_numberAt_0 rfl rfl ?_
  refine vg_Hp_numbers d_Hp_numberAt_1 rfl ?_
  refine v_iload_n d_Hp_numberAt_4 rfl rfl ?_
  obtain ⟨g1, h⟩ := gd_inv h
  refine v_ald 3 (wA_3 ad cA _) d_Hp_numberAt_5 g1 rfl ?_
  obtain ⟨e1, e2⟩ := rt_inv h
  exact ret _ _ _ _ ⟨e1, e2⟩ d_Hp_numberAt_6
theorem vc_Sh_Hp_numberAt {p : Program} {l : Launch} {e : Env} {fr rc rs rl : Nat} {s : State} {m : MethodId} {args : Array Value} {below : List Frame} {meth : Method} {c : Code} {cells slots : Nat} {Q : State → Prop} {A : Nat → Prop} {cc : ByteArray} {nL : Nat} {dC : Nat → ClassId} {dI : Nat → Nat → Nat} {cA : ClassId} {ad : Nat → Nat} {pc q : Nat} {lo : List (Option Value)} {rest : List Value} {u w : Mem} {r : Int32} {N : Nat} {b0 : Int32} (h : f_Hp_numberAt N b0 u = some (r, w)) (hfr : 0 + 1 ≤ fr) (hrl : 8 + (2 + 11) + 0 ≤ rl) (hrm : (rest.map fun v => v.category).sum ≤ 8) (hd : decode cc pc = .ok (.invokevirtual 160, 3)) (hq : pc + 3 = q) (k : VJ p l e fr rc rs rl s m args below meth c cells slots Q A cc nL R_Sh (dC, dI) cA (wA ad cA) q lo (.int r :: rest) w) : VJ p l e fr rc rs rl s m args below meth c cells slots Q A cc nL R_Sh (dC, dI) cA (wA ad cA) pc lo (.int b0 :: .ref (ad 2) :: rest) u :=
  v_callVI (As := [.int b0]) (rest := rest) (fun sz => c_Hp_numberAt l dC dI ad cA sz N b0 u r w h) tw_231 tw_232 tw_233 2 (wA_2 ad cA u) rfl rfl tw_234 tw_25 1 rfl (by decide +kernel) hfr hrl rfl hrm hd hq (fun v w1 hE => by obtain ⟨rfl, rfl⟩ := hE; exact k)
theorem d_Sh_isHeldByRoot_0 : decode b_Sh_isHeldByRoot 0 = .ok (.iconst 0, 1) := by decide +kernel
theorem d_Sh_isHeldByRoot_1 : decode b_Sh_isHeldByRoot 1 = .ok (.istore_n 3, 1) := by decide +kernel
theorem d_Sh_isHeldByRoot_2 : decode b_Sh_isHeldByRoot 2 = .ok (.iload_n 3, 1) := by decide +kernel
theorem d_Sh_isHeldByRoot_3 : decode b_Sh_isHeldByRoot 3 = .ok (.iconst 3, 1) := by decide +kernel
theorem d_Sh_isHeldByRoot_4 : decode b_Sh_isHeldByRoot 4 = .ok (.if_icmp .ge 25, 3) := by decide +kernel
theorem d_Sh_isHeldByRoot_7 : decode b_Sh_isHeldByRoot 7 = .ok (.aload_n 0, 1) := by decide +kernel
theorem d_Sh_isHeldByRoot_8 : decode b_Sh_isHeldByRoot 8 = .ok (.getfield 9, 3) := by decide +kernel
theorem d_Sh_isHeldByRoot_11 : decode b_Sh_isHeldByRoot 11 = .ok (.iload_n 1, 1) := by decide +kernel
theorem d_Sh_isHeldByRoot_12 : decode b_Sh_isHeldByRoot 12 = .ok (.iconst 3, 1) := by decide +kernel
theorem d_Sh_isHeldByRoot_13 : decode b_Sh_isHeldByRoot 13 = .ok (.imul, 1) := by decide +kernel
theorem d_Sh_isHeldByRoot_14 : decode b_Sh_isHeldByRoot 14 = .ok (.iload_n 3, 1) := by decide +kernel
theorem d_Sh_isHeldByRoot_15 : decode b_Sh_isHeldByRoot 15 = .ok (.iadd, 1) := by decide +kernel
theorem d_Sh_isHeldByRoot_16 : decode b_Sh_isHeldByRoot 16 = .ok (.iaload, 1) := by decide +kernel
theorem d_Sh_isHeldByRoot_17 : decode b_Sh_isHeldByRoot 17 = .ok (.iload_n 2, 1) := by decide +kernel
theorem d_Sh_isHeldByRoot_18 : decode b_Sh_isHeldByRoot 18 = .ok (.if_icmp .ne 5, 3) := by decide +kernel
theorem d_Sh_isHeldByRoot_21 : decode b_Sh_isHeldByRoot 21 = .ok (.iconst 1, 1) := by decide +kernel
theorem d_Sh_isHeldByRoot_22 : decode b_Sh_isHeldByRoot 22 = .ok (.ireturn, 1) := by decide +kernel
theorem d_Sh_isHeldByRoot_23 : decode b_Sh_isHeldByRoot 23 = .ok (.iinc 3 1, 3) := by decide +kernel
theorem d_Sh_isHeldByRoot_26 : decode b_Sh_isHeldByRoot 26 = .ok (.goto (-24), 3) := by decide +kernel
theorem d_Sh_isHeldByRoot_29 : decode b_Sh_isHeldByRoot 29 = .ok (.iconst 0, 1) := by decide +kernel
theorem d_Sh_isHeldByRoot_30 : decode b_Sh_isHeldByRoot 30 = .ok (.ireturn, 1) := by decide +kernel
set_option maxHeartbeats 4000000 in
set_option maxRecDepth 100000 in
theorem c_Sh_isHeldByRoot (l : Launch) (dC : Nat → ClassId) (dI : Nat → Nat → Nat) (ad : Nat → Nat) (cA : ClassId) (sz : Nat) (N : Nat) (a1 a2 : Int32) (u : Mem) (r : Int32) (w : Mem) (h : f_Sh_isHeldByRoot N a1 a2 u = some (r, w)) : CtI l y_Sh_isHeldByRoot (Cond.code y_Sh_isHeldByRoot b_Sh_isHeldByRoot 4 (some .boolean) :: lw_gd) 0 0 (dC, dI) cA [.ref (ad 0), .int a1, .int a2] (wA ad cA) u sz (fun v w1 => v = r ∧ w1 = w ∧ (v = 0 ∨ v = 1)) := by
  refine v_metI (own := R_Sh) [some (.ref (ad 0)), some (.int a1), some (.int a2), none] rfl (by decide) (Nat.le_of_ble_eq_true rfl) rfl rfl (fun v u h => by rcases h.2.2 with h | h <;> rw [h] <;> rfl) ?_
  intro p e s m args below meth c A Q ret
  unfold f_Sh_isHeldByRoot at h
  refine v_iconst 0 d_Sh_isHeldByRoot_0 (by decide) rfl ?_
  refine v_istore_n (lo' := [_, _, _, _]) d_Sh_isHeldByRoot_1 rfl (by decide) rfl ?_
  have L2 : ∀ (κ : Mem → Rs), (∀ (u8 : Mem), κ u8 = some (r, w) → VJ p l e 0 0 0 0 s m args below meth c 0 0 Q A b_Sh_isHeldByRoot 4 R_Sh (dC, dI) cA (wA ad cA) 29 [none, none, none, none] [] u8) → ∀ (n : Nat) (x1 x2 x3 : Int32) (u4 : Mem), k_Sh_isHeldByRoot_2 N κ n x1 x2 x3 u4 = some (r, w) → VJ p l e 0 0 0 0 s m args below meth c 0 0 Q A b_Sh_isHeldByRoot 4 R_Sh (dC, dI) cA (wA ad cA) 2 [some (.ref (ad 0)), some (.int x1), some (.int x2), some (.int x3)] [] u4 := by
    intro κ hκ n
    induction n with
    | zero =>
      intro x1 x2 x3 u4 h
      exact no_ns h
    | succ n ih =>
      intro x1 x2 x3 u4 h
      unfold k_Sh_isHeldByRoot_2 at h
      refine v_iload_n d_Sh_isHeldByRoot_2 rfl rfl ?_
      refine v_iconst 3 d_Sh_isHeldByRoot_3 (by decide) rfl ?_
      refine v_icmp_ge 29 d_Sh_isHeldByRoot_4 (by decide) rfl (fun c7 => ?_) (fun c7 => ?_)
      · replace h := (if_pos c7).symm.trans h
        refine v_drop 0 (lo' := [none, _, _, _]) rfl ?_
        refine v_drop 1 (lo' := [none, none, _, _]) rfl ?_
        refine v_drop 2 (lo' := [none, none, none, _]) rfl ?_
        refine v_drop 3 (lo' := [none, none, none, none]) rfl ?_
        exact hκ _ h
      · replace h := (if_neg c7).symm.trans h
        refine v_aload_n d_Sh_isHeldByRoot_7 rfl rfl ?_
        refine vg_Sh_roots d_Sh_isHeldByRoot_8 rfl ?_
        refine v_iload_n d_Sh_isHeldByRoot_11 rfl rfl ?_
        refine v_iconst 3 d_Sh_isHeldByRoot_12 (by decide) rfl ?_
        refine v_imul d_Sh_isHeldByRoot_13 rfl ?_
        refine v_iload_n d_Sh_isHeldByRoot_14 rfl rfl ?_
        refine v_iadd d_Sh_isHeldByRoot_15 rfl ?_
        obtain ⟨g5, h⟩ := gd_inv h
        refine v_ald 1 (wA_1 ad cA _) d_Sh_isHeldByRoot_16 g5 rfl ?_
        refine v_iload_n d_Sh_isHeldByRoot_17 rfl rfl ?_
        refine v_icmp_ne 23 d_Sh_isHeldByRoot_18 (by decide) rfl (fun c6 => ?_) (fun c6 => ?_)
        · replace h := (if_pos c6).symm.trans h
          refine v_iconst 1 d_Sh_isHeldByRoot_21 (by decide) rfl ?_
          obtain ⟨e1, e2⟩ := rt_inv h
          exact ret _ _ _ _ ⟨e1, e2, Or.inr rfl⟩ d_Sh_isHeldByRoot_22
        · replace h := (if_neg c6).symm.trans h
          refine v_iinc (lo' := [_, _, _, _]) 1 d_Sh_isHeldByRoot_23 (by decide) rfl rfl (by decide) rfl ?_
          refine v_goto 2 d_Sh_isHeldByRoot_26 (by decide) ?_
          exact ih _ _ _ _ h
  refine L2 _ (fun u8 h => ?_) N _ _ _ _ h
  refine v_iconst 0 d_Sh_isHeldByRoot_29 (by decide) rfl ?_
  obtain ⟨e1, e2⟩ := rt_inv h
  exact ret _ _ _ _ ⟨e1, e2, Or.inl rfl⟩ d_Sh_isHeldByRoot_30
theorem vc_Sh_Sh_isHeldByRoot {p : Program} {l : Launch} {e : Env} {fr rc rs rl : Nat} {s : State} {m : MethodId} {args : Array Value} {below : List Frame} {meth : Method} {c : Code} {cells slots : Nat} {Q : State → Prop} {A : Nat → Prop} {cc : ByteArray} {nL : Nat} {dC : Nat → ClassId} {dI : Nat → Nat → Nat} {cA : ClassId} {ad : Nat → Nat} {pc q : Nat} {lo : List (Option Value)} {rest : List Value} {u w : Mem} {r : Int32} {N : Nat} {b0 b1 : Int32} (h : f_Sh_isHeldByRoot N b0 b1 u = some (r, w)) (hfr : 0 + 1 ≤ fr) (hrl : 8 + (4 + 11) + 0 ≤ rl) (hrm : (rest.map fun v => v.category).sum ≤ 8) (hd : decode cc pc = .ok (.invokevirtual 163, 3)) (hq : pc + 3 = q) (k : VJ p l e fr rc rs rl s m args below meth c cells slots Q A cc nL R_Sh (dC, dI) cA (wA ad cA) q lo (.int r :: rest) w) : VJ p l e fr rc rs rl s m args below meth c cells slots Q A cc nL R_Sh (dC, dI) cA (wA ad cA) pc lo (.int b1 :: .int b0 :: .ref (ad 0) :: rest) u :=
  v_callVI (As := [.int b0, .int b1]) (rest := rest) (fun sz => c_Sh_isHeldByRoot l dC dI ad cA sz N b0 b1 u r w h) tw_235 tw_237 tw_6 0 (wA_0 ad cA u) rfl rfl tw_238 tw_24 2 rfl (by decide +kernel) hfr hrl rfl hrm hd hq (fun v w1 hE => by obtain ⟨rfl, rfl, -⟩ := hE; exact k)
theorem d_Sh_reachFromRootsAndEntries_0 : decode b_Sh_reachFromRootsAndEntries 0 = .ok (.iload_n 1, 1) := by decide +kernel
theorem d_Sh_reachFromRootsAndEntries_1 : decode b_Sh_reachFromRootsAndEntries 1 = .ok (.bipush 8, 2) := by decide +kernel
theorem d_Sh_reachFromRootsAndEntries_3 : decode b_Sh_reachFromRootsAndEntries 3 = .ok (.imul, 1) := by decide +kernel
theorem d_Sh_reachFromRootsAndEntries_4 : decode b_Sh_reachFromRootsAndEntries 4 = .ok (.istore_n 2, 1) := by decide +kernel
theorem d_Sh_reachFromRootsAndEntries_5 : decode b_Sh_reachFromRootsAndEntries 5 = .ok (.iload_n 2, 1) := by decide +kernel
theorem d_Sh_reachFromRootsAndEntries_6 : decode b_Sh_reachFromRootsAndEntries 6 = .ok (.iload_n 1, 1) := by decide +kernel
theorem d_Sh_reachFromRootsAndEntries_7 : decode b_Sh_reachFromRootsAndEntries 7 = .ok (.iconst 1, 1) := by decide +kernel
theorem d_Sh_reachFromRootsAndEntries_8 : decode b_Sh_reachFromRootsAndEntries 8 = .ok (.iadd, 1) := by decide +kernel
theorem d_Sh_reachFromRootsAndEntries_9 : decode b_Sh_reachFromRootsAndEntries 9 = .ok (.bipush 8, 2) := by decide +kernel
theorem d_Sh_reachFromRootsAndEntries_11 : decode b_Sh_reachFromRootsAndEntries 11 = .ok (.imul, 1) := by decide +kernel
theorem d_Sh_reachFromRootsAndEntries_12 : decode b_Sh_reachFromRootsAndEntries 12 = .ok (.if_icmp .ge 60, 3) := by decide +kernel
theorem d_Sh_reachFromRootsAndEntries_15 : decode b_Sh_reachFromRootsAndEntries 15 = .ok (.aload_n 0, 1) := by decide +kernel
theorem d_Sh_reachFromRootsAndEntries_16 : decode b_Sh_reachFromRootsAndEntries 16 = .ok (.getfield 40, 3) := by decide +kernel
theorem d_Sh_reachFromRootsAndEntries_19 : decode b_Sh_reachFromRootsAndEntries 19 = .ok (.iload_n 2, 1) := by decide +kernel
theorem d_Sh_reachFromRootsAndEntries_20 : decode b_Sh_reachFromRootsAndEntries 20 = .ok (.aload_n 0, 1) := by decide +kernel
theorem d_Sh_reachFromRootsAndEntries_21 : decode b_Sh_reachFromRootsAndEntries 21 = .ok (.getfield 16, 3) := by decide +kernel
theorem d_Sh_reachFromRootsAndEntries_24 : decode b_Sh_reachFromRootsAndEntries 24 = .ok (.iload_n 2, 1) := by decide +kernel
theorem d_Sh_reachFromRootsAndEntries_25 : decode b_Sh_reachFromRootsAndEntries 25 = .ok (.invokevirtual 115, 3) := by decide +kernel
theorem d_Sh_reachFromRootsAndEntries_28 : decode b_Sh_reachFromRootsAndEntries 28 = .ok (.iastore, 1) := by decide +kernel
theorem d_Sh_reachFromRootsAndEntries_29 : decode b_Sh_reachFromRootsAndEntries 29 = .ok (.aload_n 0, 1) := by decide +kernel
theorem d_Sh_reachFromRootsAndEntries_30 : decode b_Sh_reachFromRootsAndEntries 30 = .ok (.getfield 16, 3) := by decide +kernel
theorem d_Sh_reachFromRootsAndEntries_33 : decode b_Sh_reachFromRootsAndEntries 33 = .ok (.iload_n 2, 1) := by decide +kernel
theorem d_Sh_reachFromRootsAndEntries_34 : decode b_Sh_reachFromRootsAndEntries 34 = .ok (.invokevirtual 157, 3) := by decide +kernel
theorem d_Sh_reachFromRootsAndEntries_37 : decode b_Sh_reachFromRootsAndEntries 37 = .ok (.ifCond .eq 29, 3) := by decide +kernel
theorem d_Sh_reachFromRootsAndEntries_40 : decode b_Sh_reachFromRootsAndEntries 40 = .ok (.aload_n 0, 1) := by decide +kernel
theorem d_Sh_reachFromRootsAndEntries_41 : decode b_Sh_reachFromRootsAndEntries 41 = .ok (.iload_n 1, 1) := by decide +kernel
theorem d_Sh_reachFromRootsAndEntries_42 : decode b_Sh_reachFromRootsAndEntries 42 = .ok (.aload_n 0, 1) := by decide +kernel
theorem d_Sh_reachFromRootsAndEntries_43 : decode b_Sh_reachFromRootsAndEntries 43 = .ok (.getfield 16, 3) := by decide +kernel
theorem d_Sh_reachFromRootsAndEntries_46 : decode b_Sh_reachFromRootsAndEntries 46 = .ok (.iload_n 2, 1) := by decide +kernel
theorem d_Sh_reachFromRootsAndEntries_47 : decode b_Sh_reachFromRootsAndEntries 47 = .ok (.invokevirtual 160, 3) := by decide +kernel
theorem d_Sh_reachFromRootsAndEntries_50 : decode b_Sh_reachFromRootsAndEntries 50 = .ok (.invokevirtual 163, 3) := by decide +kernel
theorem d_Sh_reachFromRootsAndEntries_53 : decode b_Sh_reachFromRootsAndEntries 53 = .ok (.ifCond .eq 13, 3) := by decide +kernel
theorem d_Sh_reachFromRootsAndEntries_56 : decode b_Sh_reachFromRootsAndEntries 56 = .ok (.aload_n 0, 1) := by decide +kernel
theorem d_Sh_reachFromRootsAndEntries_57 : decode b_Sh_reachFromRootsAndEntries 57 = .ok (.getfield 40, 3) := by decide +kernel
theorem d_Sh_reachFromRootsAndEntries_60 : decode b_Sh_reachFromRootsAndEntries 60 = .ok (.iload_n 2, 1) := by decide +kernel
theorem d_Sh_reachFromRootsAndEntries_61 : decode b_Sh_reachFromRootsAndEntries 61 = .ok (.aload_n 0, 1) := by decide +kernel
theorem d_Sh_reachFromRootsAndEntries_62 : decode b_Sh_reachFromRootsAndEntries 62 = .ok (.getfield 56, 3) := by decide +kernel
theorem d_Sh_reachFromRootsAndEntries_65 : decode b_Sh_reachFromRootsAndEntries 65 = .ok (.iastore, 1) := by decide +kernel
theorem d_Sh_reachFromRootsAndEntries_66 : decode b_Sh_reachFromRootsAndEntries 66 = .ok (.iinc 2 1, 3) := by decide +kernel
theorem d_Sh_reachFromRootsAndEntries_69 : decode b_Sh_reachFromRootsAndEntries 69 = .ok (.goto (-64), 3) := by decide +kernel
theorem d_Sh_reachFromRootsAndEntries_72 : decode b_Sh_reachFromRootsAndEntries 72 = .ok (.return_, 1) := by decide +kernel
set_option maxHeartbeats 4000000 in
set_option maxRecDepth 100000 in
theorem c_Sh_reachFromRootsAndEntries (l : Launch) (dC : Nat → ClassId) (dI : Nat → Nat → Nat) (ad : Nat → Nat) (cA : ClassId) (sz : Nat) (N : Nat) (a1 : Int32) (u : Mem) (r : Int32) (w : Mem) (h : f_Sh_reachFromRootsAndEntries N a1 u = some (r, w)) : CtV l y_Sh_reachFromRootsAndEntries (Cond.code y_Sh_reachFromRootsAndEntries b_Sh_reachFromRootsAndEntries 3 none :: lw_gd) 1 23 (dC, dI) cA [.ref (ad 0), .int a1] (wA ad cA) u sz (fun w1 => w1 = w) := by
  refine v_metV (own := R_Sh) [some (.ref (ad 0)), some (.int a1), none] rfl (by decide) (Nat.le_of_ble_eq_true rfl) rfl rfl ?_
  intro p e s m args below meth c A Q ret
  unfold f_Sh_reachFromRootsAndEntries at h
  refine v_iload_n d_Sh_reachFromRootsAndEntries_0 rfl rfl ?_
  refine v_bipush 8 d_Sh_reachFromRootsAndEntries_1 (by decide) rfl ?_
  refine v_imul d_Sh_reachFromRootsAndEntries_3 rfl ?_
  refine v_istore_n (lo' := [_, _, _]) d_Sh_reachFromRootsAndEntries_4 rfl (by decide) rfl ?_
  have L5 : ∀ (κ : Mem → Rs), (∀ (u23 : Mem), κ u23 = some (r, w) → VJ p l e 1 0 0 23 s m args below meth c 0 0 Q A b_Sh_reachFromRootsAndEntries 3 R_Sh (dC, dI) cA (wA ad cA) 72 [none, none, none] [] u23) → ∀ (n : Nat) (x1 x2 : Int32) (u3 : Mem), k_Sh_reachFromRootsAndEntries_5 N κ n x1 x2 u3 = some (r, w) → VJ p l e 1 0 0 23 s m args below meth c 0 0 Q A b_Sh_reachFromRootsAndEntries 3 R_Sh (dC, dI) cA (wA ad cA) 5 [some (.ref (ad 0)), some (.int x1), some (.int x2)] [] u3 := by
    intro κ hκ n
    induction n with
    | zero =>
      intro x1 x2 u3 h
      exact no_ns h
    | succ n ih =>
      intro x1 x2 u3 h
      unfold k_Sh_reachFromRootsAndEntries_5 at h
      refine v_iload_n d_Sh_reachFromRootsAndEntries_5 rfl rfl ?_
      refine v_iload_n d_Sh_reachFromRootsAndEntries_6 rfl rfl ?_
      refine v_iconst 1 d_Sh_reachFromRootsAndEntries_7 (by decide) rfl ?_
      refine v_iadd d_Sh_reachFromRootsAndEntries_8 rfl ?_
      refine v_bipush 8 d_Sh_reachFromRootsAndEntries_9 (by decide) rfl ?_
      refine v_imul d_Sh_reachFromRootsAndEntries_11 rfl ?_
      refine v_icmp_ge 72 d_Sh_reachFromRootsAndEntries_12 (by decide) rfl (fun c22 => ?_) (fun c22 => ?_)
      · replace h := (if_pos c22).symm.trans h
        refine v_drop 0 (lo' := [none, _, _]) rfl ?_
        refine v_drop 1 (lo' := [none, none, _]) rfl ?_
        refine v_drop 2 (lo' := [none, none, none]) rfl ?_
        exact hκ _ h
      · replace h := (if_neg c22).symm.trans h
        refine v_aload_n d_Sh_reachFromRootsAndEntries_15 rfl rfl ?_
        refine vg_Sh_reached d_Sh_reachFromRootsAndEntries_16 rfl ?_
        refine v_iload_n d_Sh_reachFromRootsAndEntries_19 rfl rfl ?_
        refine v_aload_n d_Sh_reachFromRootsAndEntries_20 rfl rfl ?_
        refine vg_Sh_heap d_Sh_reachFromRootsAndEntries_21 rfl ?_
        refine v_iload_n d_Sh_reachFromRootsAndEntries_24 rfl rfl ?_
        obtain ⟨y4, u5, hc6, h⟩ := bd_inv h
        refine vc_Sh_Hp_entryAt hc6 (Nat.le_of_ble_eq_true rfl) (Nat.le_of_ble_eq_true rfl) (Nat.le_of_ble_eq_true rfl) d_Sh_reachFromRootsAndEntries_25 rfl ?_
        obtain ⟨g7, h⟩ := gd_inv h
        obtain ⟨u8, eu8, h⟩ := jn_inv h
        refine v_ast 14 (wA_14 ad cA _) (ws_14 ad cA _ _ _) eu8 d_Sh_reachFromRootsAndEntries_28 g7 rfl ?_
        refine v_aload_n d_Sh_reachFromRootsAndEntries_29 rfl rfl ?_
        refine vg_Sh_heap d_Sh_reachFromRootsAndEntries_30 rfl ?_
        refine v_iload_n d_Sh_reachFromRootsAndEntries_33 rfl rfl ?_
        obtain ⟨y9, u10, hc11, h⟩ := bd_inv h
        refine vc_Sh_Hp_isTaken hc11 (Nat.le_of_ble_eq_true rfl) (Nat.le_of_ble_eq_true rfl) (Nat.le_of_ble_eq_true rfl) d_Sh_reachFromRootsAndEntries_34 rfl ?_
        refine v_if_eq 66 d_Sh_reachFromRootsAndEntries_37 (by decide) rfl (fun c21 => ?_) (fun c21 => ?_)
        · replace h := (if_pos c21).symm.trans h
          refine v_iinc (lo' := [_, _, _]) 1 d_Sh_reachFromRootsAndEntries_66 (by decide) rfl rfl (by decide) rfl ?_
          refine v_goto 5 d_Sh_reachFromRootsAndEntries_69 (by decide) ?_
          exact ih _ _ _ h
        · replace h := (if_neg c21).symm.trans h
          refine v_aload_n d_Sh_reachFromRootsAndEntries_40 rfl rfl ?_
          refine v_iload_n d_Sh_reachFromRootsAndEntries_41 rfl rfl ?_
          refine v_aload_n d_Sh_reachFromRootsAndEntries_42 rfl rfl ?_
          refine vg_Sh_heap d_Sh_reachFromRootsAndEntries_43 rfl ?_
          refine v_iload_n d_Sh_reachFromRootsAndEntries_46 rfl rfl ?_
          obtain ⟨y12, u13, hc14, h⟩ := bd_inv h
          refine vc_Sh_Hp_numberAt hc14 (Nat.le_of_ble_eq_true rfl) (Nat.le_of_ble_eq_true rfl) (Nat.le_of_ble_eq_true rfl) d_Sh_reachFromRootsAndEntries_47 rfl ?_
          obtain ⟨y15, u16, hc17, h⟩ := bd_inv h
          refine vc_Sh_Sh_isHeldByRoot hc17 (Nat.le_of_ble_eq_true rfl) (Nat.le_of_ble_eq_true rfl) (Nat.le_of_ble_eq_true rfl) d_Sh_reachFromRootsAndEntries_50 rfl ?_
          refine v_if_eq 66 d_Sh_reachFromRootsAndEntries_53 (by decide) rfl (fun c20 => ?_) (fun c20 => ?_)
          · replace h := (if_pos c20).symm.trans h
            refine v_iinc (lo' := [_, _, _]) 1 d_Sh_reachFromRootsAndEntries_66 (by decide) rfl rfl (by decide) rfl ?_
            refine v_goto 5 d_Sh_reachFromRootsAndEntries_69 (by decide) ?_
            exact ih _ _ _ h
          · replace h := (if_neg c20).symm.trans h
            refine v_aload_n d_Sh_reachFromRootsAndEntries_56 rfl rfl ?_
            refine vg_Sh_reached d_Sh_reachFromRootsAndEntries_57 rfl ?_
            refine v_iload_n d_Sh_reachFromRootsAndEntries_60 rfl rfl ?_
            refine v_aload_n d_Sh_reachFromRootsAndEntries_61 rfl rfl ?_
            refine vg_Sh_clock d_Sh_reachFromRootsAndEntries_62 rfl ?_
            obtain ⟨g18, h⟩ := gd_inv h
            obtain ⟨u19, eu19, h⟩ := jn_inv h
            refine v_ast 14 (wA_14 ad cA _) (ws_14 ad cA _ _ _) eu19 d_Sh_reachFromRootsAndEntries_65 g18 rfl ?_
            refine v_iinc (lo' := [_, _, _]) 1 d_Sh_reachFromRootsAndEntries_66 (by decide) rfl rfl (by decide) rfl ?_
            refine v_goto 5 d_Sh_reachFromRootsAndEntries_69 (by decide) ?_
            exact ih _ _ _ h
  refine L5 _ (fun u23 h => ?_) N _ _ _ h
  obtain ⟨-, e2⟩ := rt_inv h
  exact ret _ _ _ e2 d_Sh_reachFromRootsAndEntries_72
theorem vc_Sh_Sh_reachFromRootsAndEntries {p : Program} {l : Launch} {e : Env} {fr rc rs rl : Nat} {s : State} {m : MethodId} {args : Array Value} {below : List Frame} {meth : Method} {c : Code} {cells slots : Nat} {Q : State → Prop} {A : Nat → Prop} {cc : ByteArray} {nL : Nat} {dC : Nat → ClassId} {dI : Nat → Nat → Nat} {cA : ClassId} {ad : Nat → Nat} {pc q : Nat} {lo : List (Option Value)} {rest : List Value} {u w : Mem} {r : Int32} {N : Nat} {b0 : Int32} (h : f_Sh_reachFromRootsAndEntries N b0 u = some (r, w)) (hfr : 1 + 1 ≤ fr) (hrl : 8 + (3 + 11) + 23 ≤ rl) (hrm : (rest.map fun v => v.category).sum ≤ 8) (hd : decode cc pc = .ok (.invokevirtual 90, 3)) (hq : pc + 3 = q) (k : VJ p l e fr rc rs rl s m args below meth c cells slots Q A cc nL R_Sh (dC, dI) cA (wA ad cA) q lo rest w) : VJ p l e fr rc rs rl s m args below meth c cells slots Q A cc nL R_Sh (dC, dI) cA (wA ad cA) pc lo (.int b0 :: .ref (ad 0) :: rest) u :=
  v_callVV (As := [.int b0]) (rest := rest) (fun sz => c_Sh_reachFromRootsAndEntries l dC dI ad cA sz N b0 u r w h) tw_226 tw_228 tw_5 0 (wA_0 ad cA u) rfl rfl tw_229 tw_24 1 rfl (by decide +kernel) hfr hrl rfl hrm hd hq (fun w1 hE => by subst hE; exact k)
theorem d_Sh_reachFromField_0 : decode b_Sh_reachFromField 0 = .ok (.aload_n 0, 1) := by decide +kernel
theorem d_Sh_reachFromField_1 : decode b_Sh_reachFromField 1 = .ok (.getfield 16, 3) := by decide +kernel
theorem d_Sh_reachFromField_4 : decode b_Sh_reachFromField 4 = .ok (.aload_n 0, 1) := by decide +kernel
theorem d_Sh_reachFromField_5 : decode b_Sh_reachFromField 5 = .ok (.getfield 16, 3) := by decide +kernel
theorem d_Sh_reachFromField_8 : decode b_Sh_reachFromField 8 = .ok (.iload_n 2, 1) := by decide +kernel
theorem d_Sh_reachFromField_9 : decode b_Sh_reachFromField 9 = .ok (.iload_n 3, 1) := by decide +kernel
theorem d_Sh_reachFromField_10 : decode b_Sh_reachFromField 10 = .ok (.invokevirtual 73, 3) := by decide +kernel
theorem d_Sh_reachFromField_13 : decode b_Sh_reachFromField 13 = .ok (.invokevirtual 70, 3) := by decide +kernel
theorem d_Sh_reachFromField_16 : decode b_Sh_reachFromField 16 = .ok (.istore 4, 2) := by decide +kernel
theorem d_Sh_reachFromField_18 : decode b_Sh_reachFromField 18 = .ok (.iload 4, 2) := by decide +kernel
theorem d_Sh_reachFromField_20 : decode b_Sh_reachFromField 20 = .ok (.iconst (-1), 1) := by decide +kernel
theorem d_Sh_reachFromField_21 : decode b_Sh_reachFromField 21 = .ok (.if_icmp .eq 35, 3) := by decide +kernel
theorem d_Sh_reachFromField_24 : decode b_Sh_reachFromField 24 = .ok (.iload 4, 2) := by decide +kernel
theorem d_Sh_reachFromField_26 : decode b_Sh_reachFromField 26 = .ok (.invokestatic 77, 3) := by decide +kernel
theorem d_Sh_reachFromField_29 : decode b_Sh_reachFromField 29 = .ok (.iload_n 1, 1) := by decide +kernel
theorem d_Sh_reachFromField_30 : decode b_Sh_reachFromField 30 = .ok (.if_icmp .ne 26, 3) := by decide +kernel
theorem d_Sh_reachFromField_33 : decode b_Sh_reachFromField 33 = .ok (.aload_n 0, 1) := by decide +kernel
theorem d_Sh_reachFromField_34 : decode b_Sh_reachFromField 34 = .ok (.getfield 40, 3) := by decide +kernel
theorem d_Sh_reachFromField_37 : decode b_Sh_reachFromField 37 = .ok (.iload 4, 2) := by decide +kernel
theorem d_Sh_reachFromField_39 : decode b_Sh_reachFromField 39 = .ok (.aload_n 0, 1) := by decide +kernel
theorem d_Sh_reachFromField_40 : decode b_Sh_reachFromField 40 = .ok (.getfield 40, 3) := by decide +kernel
theorem d_Sh_reachFromField_43 : decode b_Sh_reachFromField 43 = .ok (.iload 4, 2) := by decide +kernel
theorem d_Sh_reachFromField_45 : decode b_Sh_reachFromField 45 = .ok (.iaload, 1) := by decide +kernel
theorem d_Sh_reachFromField_46 : decode b_Sh_reachFromField 46 = .ok (.aload_n 0, 1) := by decide +kernel
theorem d_Sh_reachFromField_47 : decode b_Sh_reachFromField 47 = .ok (.getfield 40, 3) := by decide +kernel
theorem d_Sh_reachFromField_50 : decode b_Sh_reachFromField 50 = .ok (.iload_n 2, 1) := by decide +kernel
theorem d_Sh_reachFromField_51 : decode b_Sh_reachFromField 51 = .ok (.iaload, 1) := by decide +kernel
theorem d_Sh_reachFromField_52 : decode b_Sh_reachFromField 52 = .ok (.invokestatic 133, 3) := by decide +kernel
theorem d_Sh_reachFromField_55 : decode b_Sh_reachFromField 55 = .ok (.iastore, 1) := by decide +kernel
theorem d_Sh_reachFromField_56 : decode b_Sh_reachFromField 56 = .ok (.return_, 1) := by decide +kernel
set_option maxHeartbeats 4000000 in
set_option maxRecDepth 100000 in
theorem c_Sh_reachFromField (l : Launch) (dC : Nat → ClassId) (dI : Nat → Nat → Nat) (ad : Nat → Nat) (cA : ClassId) (sz : Nat) (N : Nat) (a1 a2 a3 : Int32) (u : Mem) (r : Int32) (w : Mem) (h : f_Sh_reachFromField N a1 a2 a3 u = some (r, w)) : CtV l y_Sh_reachFromField (Cond.code y_Sh_reachFromField b_Sh_reachFromField 5 none :: lw_gd) 1 22 (dC, dI) cA [.ref (ad 0), .int a1, .int a2, .int a3] (wA ad cA) u sz (fun w1 => w1 = w) := by
  refine v_metV (own := R_Sh) [some (.ref (ad 0)), some (.int a1), some (.int a2), some (.int a3), none] rfl (by decide) (Nat.le_of_ble_eq_true rfl) rfl rfl ?_
  intro p e s m args below meth c A Q ret
  unfold f_Sh_reachFromField at h
  refine v_aload_n d_Sh_reachFromField_0 rfl rfl ?_
  refine vg_Sh_heap d_Sh_reachFromField_1 rfl ?_
  refine v_aload_n d_Sh_reachFromField_4 rfl rfl ?_
  refine vg_Sh_heap d_Sh_reachFromField_5 rfl ?_
  refine v_iload_n d_Sh_reachFromField_8 rfl rfl ?_
  refine v_iload_n d_Sh_reachFromField_9 rfl rfl ?_
  obtain ⟨y1, u2, hc3, h⟩ := bd_inv h
  refine vc_Sh_Hp_fieldAt hc3 (Nat.le_of_ble_eq_true rfl) (Nat.le_of_ble_eq_true rfl) (Nat.le_of_ble_eq_true rfl) d_Sh_reachFromField_10 rfl ?_
  obtain ⟨y4, u5, hc6, h⟩ := bd_inv h
  refine vc_Sh_Hp_slotOf hc6 (Nat.le_of_ble_eq_true rfl) (Nat.le_of_ble_eq_true rfl) (Nat.le_of_ble_eq_true rfl) d_Sh_reachFromField_13 rfl ?_
  refine v_istore (lo' := [_, _, _, _, _]) d_Sh_reachFromField_16 rfl (by decide) rfl ?_
  refine v_iload d_Sh_reachFromField_18 rfl rfl ?_
  refine v_iconst (-1) d_Sh_reachFromField_20 (by decide) rfl ?_
  refine v_icmp_eq 56 d_Sh_reachFromField_21 (by decide) rfl (fun c15 => ?_) (fun c15 => ?_)
  · replace h := (if_pos c15).symm.trans h
    obtain ⟨-, e2⟩ := rt_inv h
    exact ret _ _ _ e2 d_Sh_reachFromField_56
  · replace h := (if_neg c15).symm.trans h
    refine v_iload d_Sh_reachFromField_24 rfl rfl ?_
    obtain ⟨y7, u8, hc9, h⟩ := bd_inv h
    refine vc_Sh_Hp_nodeOf hc9 (Nat.le_of_ble_eq_true rfl) (Nat.le_of_ble_eq_true rfl) (Nat.le_of_ble_eq_true rfl) d_Sh_reachFromField_26 rfl ?_
    refine v_iload_n d_Sh_reachFromField_29 rfl rfl ?_
    refine v_icmp_ne 56 d_Sh_reachFromField_30 (by decide) rfl (fun c14 => ?_) (fun c14 => ?_)
    · replace h := (if_pos c14).symm.trans h
      refine v_aload_n d_Sh_reachFromField_33 rfl rfl ?_
      refine vg_Sh_reached d_Sh_reachFromField_34 rfl ?_
      refine v_iload d_Sh_reachFromField_37 rfl rfl ?_
      refine v_aload_n d_Sh_reachFromField_39 rfl rfl ?_
      refine vg_Sh_reached d_Sh_reachFromField_40 rfl ?_
      refine v_iload d_Sh_reachFromField_43 rfl rfl ?_
      obtain ⟨g10, h⟩ := gd_inv h
      refine v_ald 14 (wA_14 ad cA _) d_Sh_reachFromField_45 g10 rfl ?_
      refine v_aload_n d_Sh_reachFromField_46 rfl rfl ?_
      refine vg_Sh_reached d_Sh_reachFromField_47 rfl ?_
      refine v_iload_n d_Sh_reachFromField_50 rfl rfl ?_
      obtain ⟨g11, h⟩ := gd_inv h
      refine v_ald 14 (wA_14 ad cA _) d_Sh_reachFromField_51 g11 rfl ?_
      refine v_mmax tw_247 tw_248 tw_29 tw_249 (Nat.le_of_ble_eq_true rfl) (Nat.le_of_ble_eq_true rfl) d_Sh_reachFromField_52 rfl ?_
      obtain ⟨g12, h⟩ := gd_inv h
      obtain ⟨u13, eu13, h⟩ := jn_inv h
      refine v_ast 14 (wA_14 ad cA _) (ws_14 ad cA _ _ _) eu13 d_Sh_reachFromField_55 g12 rfl ?_
      obtain ⟨-, e2⟩ := rt_inv h
      exact ret _ _ _ e2 d_Sh_reachFromField_56
    · replace h := (if_neg c14).symm.trans h
      obtain ⟨-, e2⟩ := rt_inv h
      exact ret _ _ _ e2 d_Sh_reachFromField_56
theorem vc_Sh_Sh_reachFromField {p : Program} {l : Launch} {e : Env} {fr rc rs rl : Nat} {s : State} {m : MethodId} {args : Array Value} {below : List Frame} {meth : Method} {c : Code} {cells slots : Nat} {Q : State → Prop} {A : Nat → Prop} {cc : ByteArray} {nL : Nat} {dC : Nat → ClassId} {dI : Nat → Nat → Nat} {cA : ClassId} {ad : Nat → Nat} {pc q : Nat} {lo : List (Option Value)} {rest : List Value} {u w : Mem} {r : Int32} {N : Nat} {b0 b1 b2 : Int32} (h : f_Sh_reachFromField N b0 b1 b2 u = some (r, w)) (hfr : 1 + 1 ≤ fr) (hrl : 8 + (5 + 11) + 22 ≤ rl) (hrm : (rest.map fun v => v.category).sum ≤ 8) (hd : decode cc pc = .ok (.invokevirtual 166, 3)) (hq : pc + 3 = q) (k : VJ p l e fr rc rs rl s m args below meth c cells slots Q A cc nL R_Sh (dC, dI) cA (wA ad cA) q lo rest w) : VJ p l e fr rc rs rl s m args below meth c cells slots Q A cc nL R_Sh (dC, dI) cA (wA ad cA) pc lo (.int b2 :: .int b1 :: .int b0 :: .ref (ad 0) :: rest) u :=
  v_callVV (As := [.int b0, .int b1, .int b2]) (rest := rest) (fun sz => c_Sh_reachFromField l dC dI ad cA sz N b0 b1 b2 u r w h) tw_243 tw_245 tw_8 0 (wA_0 ad cA u) rfl rfl tw_246 tw_24 3 rfl (by decide +kernel) hfr hrl rfl hrm hd hq (fun w1 hE => by subst hE; exact k)
