/-! Contracts. -/
theorem d_Sh_reachAlongFields_0 : decode b_Sh_reachAlongFields 0 = .ok (.iconst 1, 1) := by decide +kernel
theorem d_Sh_reachAlongFields_1 : decode b_Sh_reachAlongFields 1 = .ok (.istore_n 2, 1) := by decide +kernel
theorem d_Sh_reachAlongFields_2 : decode b_Sh_reachAlongFields 2 = .ok (.iload_n 2, 1) := by decide +kernel
theorem d_Sh_reachAlongFields_3 : decode b_Sh_reachAlongFields 3 = .ok (.bipush 8, 2) := by decide +kernel
theorem d_Sh_reachAlongFields_5 : decode b_Sh_reachAlongFields 5 = .ok (.if_icmp .ge 53, 3) := by decide +kernel
theorem d_Sh_reachAlongFields_8 : decode b_Sh_reachAlongFields 8 = .ok (.iload_n 1, 1) := by decide +kernel
theorem d_Sh_reachAlongFields_9 : decode b_Sh_reachAlongFields 9 = .ok (.bipush 8, 2) := by decide +kernel
theorem d_Sh_reachAlongFields_11 : decode b_Sh_reachAlongFields 11 = .ok (.imul, 1) := by decide +kernel
theorem d_Sh_reachAlongFields_12 : decode b_Sh_reachAlongFields 12 = .ok (.istore_n 3, 1) := by decide +kernel
theorem d_Sh_reachAlongFields_13 : decode b_Sh_reachAlongFields 13 = .ok (.iload_n 3, 1) := by decide +kernel
theorem d_Sh_reachAlongFields_14 : decode b_Sh_reachAlongFields 14 = .ok (.iload_n 1, 1) := by decide +kernel
theorem d_Sh_reachAlongFields_15 : decode b_Sh_reachAlongFields 15 = .ok (.iconst 1, 1) := by decide +kernel
theorem d_Sh_reachAlongFields_16 : decode b_Sh_reachAlongFields 16 = .ok (.iadd, 1) := by decide +kernel
theorem d_Sh_reachAlongFields_17 : decode b_Sh_reachAlongFields 17 = .ok (.bipush 8, 2) := by decide +kernel
theorem d_Sh_reachAlongFields_19 : decode b_Sh_reachAlongFields 19 = .ok (.imul, 1) := by decide +kernel
theorem d_Sh_reachAlongFields_20 : decode b_Sh_reachAlongFields 20 = .ok (.if_icmp .ge 32, 3) := by decide +kernel
theorem d_Sh_reachAlongFields_23 : decode b_Sh_reachAlongFields 23 = .ok (.iconst 0, 1) := by decide +kernel
theorem d_Sh_reachAlongFields_24 : decode b_Sh_reachAlongFields 24 = .ok (.istore 4, 2) := by decide +kernel
theorem d_Sh_reachAlongFields_26 : decode b_Sh_reachAlongFields 26 = .ok (.iload 4, 2) := by decide +kernel
theorem d_Sh_reachAlongFields_28 : decode b_Sh_reachAlongFields 28 = .ok (.iconst 2, 1) := by decide +kernel
theorem d_Sh_reachAlongFields_29 : decode b_Sh_reachAlongFields 29 = .ok (.if_icmp .ge 17, 3) := by decide +kernel
theorem d_Sh_reachAlongFields_32 : decode b_Sh_reachAlongFields 32 = .ok (.aload_n 0, 1) := by decide +kernel
theorem d_Sh_reachAlongFields_33 : decode b_Sh_reachAlongFields 33 = .ok (.iload_n 1, 1) := by decide +kernel
theorem d_Sh_reachAlongFields_34 : decode b_Sh_reachAlongFields 34 = .ok (.iload_n 3, 1) := by decide +kernel
theorem d_Sh_reachAlongFields_35 : decode b_Sh_reachAlongFields 35 = .ok (.iload 4, 2) := by decide +kernel
theorem d_Sh_reachAlongFields_37 : decode b_Sh_reachAlongFields 37 = .ok (.invokevirtual 166, 3) := by decide +kernel
theorem d_Sh_reachAlongFields_40 : decode b_Sh_reachAlongFields 40 = .ok (.iinc 4 1, 3) := by decide +kernel
theorem d_Sh_reachAlongFields_43 : decode b_Sh_reachAlongFields 43 = .ok (.goto (-17), 3) := by decide +kernel
theorem d_Sh_reachAlongFields_46 : decode b_Sh_reachAlongFields 46 = .ok (.iinc 3 1, 3) := by decide +kernel
theorem d_Sh_reachAlongFields_49 : decode b_Sh_reachAlongFields 49 = .ok (.goto (-36), 3) := by decide +kernel
theorem d_Sh_reachAlongFields_52 : decode b_Sh_reachAlongFields 52 = .ok (.iinc 2 1, 3) := by decide +kernel
theorem d_Sh_reachAlongFields_55 : decode b_Sh_reachAlongFields 55 = .ok (.goto (-53), 3) := by decide +kernel
theorem d_Sh_reachAlongFields_58 : decode b_Sh_reachAlongFields 58 = .ok (.return_, 1) := by decide +kernel
set_option maxHeartbeats 4000000 in
set_option maxRecDepth 100000 in
theorem c_Sh_reachAlongFields (l : Launch) (dC : Nat → ClassId) (dI : Nat → Nat → Nat) (ad : Nat → Nat) (cA : ClassId) (sz : Nat) (N : Nat) (a1 : Int32) (u : Mem) (r : Int32) (w : Mem) (h : f_Sh_reachAlongFields N a1 u = some (r, w)) : CtV l y_Sh_reachAlongFields (Cond.code y_Sh_reachAlongFields b_Sh_reachAlongFields 5 none :: lw_gd) 2 46 (dC, dI) cA [.ref (ad 0), .int a1] (wA ad cA) u sz (fun w1 => w1 = w) := by
  refine v_metV (own := R_Sh) [some (.ref (ad 0)), some (.int a1), none, none, none] rfl (by decide) (Nat.le_of_ble_eq_true rfl) rfl rfl ?_
  intro p e s m args below meth c A Q ret
  unfold f_Sh_reachAlongFields at h
  refine v_iconst 1 d_Sh_reachAlongFields_0 (by decide) rfl ?_
  refine v_istore_n (lo' := [_, _, _, none, none]) d_Sh_reachAlongFields_1 rfl (by decide) rfl ?_
  have L2 : ∀ (κ : Mem → Rs), (∀ (u26 : Mem), κ u26 = some (r, w) → VJ p l e 2 0 0 46 s m args below meth c 0 0 Q A b_Sh_reachAlongFields 5 R_Sh (dC, dI) cA (wA ad cA) 58 [none, none, none, none, none] [] u26) → ∀ (n : Nat) (x1 x2 : Int32) (u3 : Mem), k_Sh_reachAlongFields_2 N κ n x1 x2 u3 = some (r, w) → VJ p l e 2 0 0 46 s m args below meth c 0 0 Q A b_Sh_reachAlongFields 5 R_Sh (dC, dI) cA (wA ad cA) 2 [some (.ref (ad 0)), some (.int x1), some (.int x2), none, none] [] u3 := by
    intro κ hκ n
    induction n with
    | zero =>
      intro x1 x2 u3 h
      exact no_ns h
    | succ n ih =>
      intro x1 x2 u3 h
      unfold k_Sh_reachAlongFields_2 at h
      refine v_iload_n d_Sh_reachAlongFields_2 rfl rfl ?_
      refine v_bipush 8 d_Sh_reachAlongFields_3 (by decide) rfl ?_
      refine v_icmp_ge 58 d_Sh_reachAlongFields_5 (by decide) rfl (fun c25 => ?_) (fun c25 => ?_)
      · replace h := (if_pos c25).symm.trans h
        refine v_drop 0 (lo' := [none, _, _, none, none]) rfl ?_
        refine v_drop 1 (lo' := [none, none, _, none, none]) rfl ?_
        refine v_drop 2 (lo' := [none, none, none, none, none]) rfl ?_
        exact hκ _ h
      · replace h := (if_neg c25).symm.trans h
        refine v_iload_n d_Sh_reachAlongFields_8 rfl rfl ?_
        refine v_bipush 8 d_Sh_reachAlongFields_9 (by decide) rfl ?_
        refine v_imul d_Sh_reachAlongFields_11 rfl ?_
        refine v_istore_n (lo' := [_, _, _, _, none]) d_Sh_reachAlongFields_12 rfl (by decide) rfl ?_
        have L13 : ∀ (κ : Int32 → Int32 → Mem → Rs), (∀ (x22 x23 : Int32) (u24 : Mem), κ x22 x23 u24 = some (r, w) → VJ p l e 2 0 0 46 s m args below meth c 0 0 Q A b_Sh_reachAlongFields 5 R_Sh (dC, dI) cA (wA ad cA) 52 [some (.ref (ad 0)), some (.int x22), some (.int x23), none, none] [] u24) → ∀ (n : Nat) (x4 x5 x6 : Int32) (u7 : Mem), k_Sh_reachAlongFields_13 N κ n x4 x5 x6 u7 = some (r, w) → VJ p l e 2 0 0 46 s m args below meth c 0 0 Q A b_Sh_reachAlongFields 5 R_Sh (dC, dI) cA (wA ad cA) 13 [some (.ref (ad 0)), some (.int x4), some (.int x5), some (.int x6), none] [] u7 := by
          intro κ hκ n
          induction n with
          | zero =>
            intro x4 x5 x6 u7 h
            exact no_ns h
          | succ n ih =>
            intro x4 x5 x6 u7 h
            unfold k_Sh_reachAlongFields_13 at h
            refine v_iload_n d_Sh_reachAlongFields_13 rfl rfl ?_
            refine v_iload_n d_Sh_reachAlongFields_14 rfl rfl ?_
            refine v_iconst 1 d_Sh_reachAlongFields_15 (by decide) rfl ?_
            refine v_iadd d_Sh_reachAlongFields_16 rfl ?_
            refine v_bipush 8 d_Sh_reachAlongFields_17 (by decide) rfl ?_
            refine v_imul d_Sh_reachAlongFields_19 rfl ?_
            refine v_icmp_ge 52 d_Sh_reachAlongFields_20 (by decide) rfl (fun c21 => ?_) (fun c21 => ?_)
            · replace h := (if_pos c21).symm.trans h
              refine v_drop 3 (lo' := [_, _, _, none, none]) rfl ?_
              exact hκ _ _ _ h
            · replace h := (if_neg c21).symm.trans h
              refine v_iconst 0 d_Sh_reachAlongFields_23 (by decide) rfl ?_
              refine v_istore (lo' := [_, _, _, _, _]) d_Sh_reachAlongFields_24 rfl (by decide) rfl ?_
              have L26 : ∀ (κ : Int32 → Int32 → Int32 → Mem → Rs), (∀ (x17 x18 x19 : Int32) (u20 : Mem), κ x17 x18 x19 u20 = some (r, w) → VJ p l e 2 0 0 46 s m args below meth c 0 0 Q A b_Sh_reachAlongFields 5 R_Sh (dC, dI) cA (wA ad cA) 46 [some (.ref (ad 0)), some (.int x17), some (.int x18), some (.int x19), none] [] u20) → ∀ (n : Nat) (x8 x9 x10 x11 : Int32) (u12 : Mem), k_Sh_reachAlongFields_26 N κ n x8 x9 x10 x11 u12 = some (r, w) → VJ p l e 2 0 0 46 s m args below meth c 0 0 Q A b_Sh_reachAlongFields 5 R_Sh (dC, dI) cA (wA ad cA) 26 [some (.ref (ad 0)), some (.int x8), some (.int x9), some (.int x10), some (.int x11)] [] u12 := by
                intro κ hκ n
                induction n with
                | zero =>
                  intro x8 x9 x10 x11 u12 h
                  exact no_ns h
                | succ n ih =>
                  intro x8 x9 x10 x11 u12 h
                  unfold k_Sh_reachAlongFields_26 at h
                  refine v_iload d_Sh_reachAlongFields_26 rfl rfl ?_
                  refine v_iconst 2 d_Sh_reachAlongFields_28 (by decide) rfl ?_
                  refine v_icmp_ge 46 d_Sh_reachAlongFields_29 (by decide) rfl (fun c16 => ?_) (fun c16 => ?_)
                  · replace h := (if_pos c16).symm.trans h
                    refine v_drop 4 (lo' := [_, _, _, _, none]) rfl ?_
                    exact hκ _ _ _ _ h
                  · replace h := (if_neg c16).symm.trans h
                    refine v_aload_n d_Sh_reachAlongFields_32 rfl rfl ?_
                    refine v_iload_n d_Sh_reachAlongFields_33 rfl rfl ?_
                    refine v_iload_n d_Sh_reachAlongFields_34 rfl rfl ?_
                    refine v_iload d_Sh_reachAlongFields_35 rfl rfl ?_
                    obtain ⟨_y13, u14, hc15, h⟩ := bd_inv h
                    refine vc_Sh_Sh_reachFromField hc15 (Nat.le_of_ble_eq_true rfl) (Nat.le_of_ble_eq_true rfl) (Nat.le_of_ble_eq_true rfl) d_Sh_reachAlongFields_37 rfl ?_
                    refine v_iinc (lo' := [_, _, _, _, _]) 1 d_Sh_reachAlongFields_40 (by decide) rfl rfl (by decide) rfl ?_
                    refine v_goto 26 d_Sh_reachAlongFields_43 (by decide) ?_
                    exact ih _ _ _ _ _ h
              refine L26 _ (fun x17 x18 x19 u20 h => ?_) N _ _ _ _ _ h
              refine v_iinc (lo' := [_, _, _, _, none]) 1 d_Sh_reachAlongFields_46 (by decide) rfl rfl (by decide) rfl ?_
              refine v_goto 13 d_Sh_reachAlongFields_49 (by decide) ?_
              exact ih _ _ _ _ h
        refine L13 _ (fun x22 x23 u24 h => ?_) N _ _ _ _ h
        refine v_iinc (lo' := [_, _, _, none, none]) 1 d_Sh_reachAlongFields_52 (by decide) rfl rfl (by decide) rfl ?_
        refine v_goto 2 d_Sh_reachAlongFields_55 (by decide) ?_
        exact ih _ _ _ h
  refine L2 _ (fun u26 h => ?_) N _ _ _ h
  obtain ⟨-, e2⟩ := rt_inv h
  exact ret _ _ _ e2 d_Sh_reachAlongFields_58
theorem vc_Sh_Sh_reachAlongFields {p : Program} {l : Launch} {e : Env} {fr rc rs rl : Nat} {s : State} {m : MethodId} {args : Array Value} {below : List Frame} {meth : Method} {c : Code} {cells slots : Nat} {Q : State → Prop} {A : Nat → Prop} {cc : ByteArray} {nL : Nat} {dC : Nat → ClassId} {dI : Nat → Nat → Nat} {cA : ClassId} {ad : Nat → Nat} {pc q : Nat} {lo : List (Option Value)} {rest : List Value} {u w : Mem} {r : Int32} {N : Nat} {b0 : Int32} (h : f_Sh_reachAlongFields N b0 u = some (r, w)) (hfr : 2 + 1 ≤ fr) (hrl : 8 + (5 + 11) + 46 ≤ rl) (hrm : (rest.map fun v => v.category).sum ≤ 8) (hd : decode cc pc = .ok (.invokevirtual 94, 3)) (hq : pc + 3 = q) (k : VJ p l e fr rc rs rl s m args below meth c cells slots Q A cc nL R_Sh (dC, dI) cA (wA ad cA) q lo rest w) : VJ p l e fr rc rs rl s m args below meth c cells slots Q A cc nL R_Sh (dC, dI) cA (wA ad cA) pc lo (.int b0 :: .ref (ad 0) :: rest) u :=
  v_callVV (As := [.int b0]) (rest := rest) (fun sz => c_Sh_reachAlongFields l dC dI ad cA sz N b0 u r w h) tw_239 tw_241 tw_7 0 (wA_0 ad cA u) rfl rfl tw_242 tw_24 1 rfl (by decide +kernel) hfr hrl rfl hrm hd hq (fun w1 hE => by subst hE; exact k)
theorem d_Xt_size_0 : decode b_Xt_size 0 = .ok (.aload_n 0, 1) := by decide +kernel
theorem d_Xt_size_1 : decode b_Xt_size 1 = .ok (.getfield 21, 3) := by decide +kernel
theorem d_Xt_size_4 : decode b_Xt_size 4 = .ok (.ireturn, 1) := by decide +kernel
set_option maxHeartbeats 4000000 in
set_option maxRecDepth 100000 in
theorem c_Xt_size (l : Launch) (dC : Nat → ClassId) (dI : Nat → Nat → Nat) (ad : Nat → Nat) (cA : ClassId) (sz : Nat) (N : Nat) (u : Mem) (r : Int32) (w : Mem) (h : f_Xt_size N u = some (r, w)) : CtI l y_Xt_size (Cond.code y_Xt_size b_Xt_size 1 (some .int) :: lw_gd) 0 0 (dC, dI) cA [.ref (ad 6)] (wA ad cA) u sz (fun v w1 => v = r ∧ w1 = w) := by
  refine v_metI (own := R_Xt) [some (.ref (ad 6))] rfl (by decide) (Nat.le_of_ble_eq_true rfl) rfl rfl (fun v u h => rfl) ?_
  intro p e s m args below meth c A Q ret
  unfold f_Xt_size at h
  refine v_aload_n d_Xt_size_0 rfl rfl ?_
  refine vg_Xt_size d_Xt_size_1 rfl ?_
  obtain ⟨e1, e2⟩ := rt_inv h
  exact ret _ _ _ _ ⟨e1, e2⟩ d_Xt_size_4
theorem vc_Sh_Xt_size {p : Program} {l : Launch} {e : Env} {fr rc rs rl : Nat} {s : State} {m : MethodId} {args : Array Value} {below : List Frame} {meth : Method} {c : Code} {cells slots : Nat} {Q : State → Prop} {A : Nat → Prop} {cc : ByteArray} {nL : Nat} {dC : Nat → ClassId} {dI : Nat → Nat → Nat} {cA : ClassId} {ad : Nat → Nat} {pc q : Nat} {lo : List (Option Value)} {rest : List Value} {u w : Mem} {r : Int32} {N : Nat} (h : f_Xt_size N u = some (r, w)) (hfr : 0 + 1 ≤ fr) (hrl : 8 + (1 + 11) + 0 ≤ rl) (hrm : (rest.map fun v => v.category).sum ≤ 8) (hd : decode cc pc = .ok (.invokevirtual 175, 3)) (hq : pc + 3 = q) (k : VJ p l e fr rc rs rl s m args below meth c cells slots Q A cc nL R_Sh (dC, dI) cA (wA ad cA) q lo (.int r :: rest) w) : VJ p l e fr rc rs rl s m args below meth c cells slots Q A cc nL R_Sh (dC, dI) cA (wA ad cA) pc lo (.ref (ad 6) :: rest) u :=
  v_callVI (As := []) (rest := rest) (fun sz => c_Xt_size l dC dI ad cA sz N u r w h) tw_254 tw_255 tw_256 6 (wA_6 ad cA u) rfl rfl tw_257 tw_26 0 rfl (by decide +kernel) hfr hrl rfl hrm hd hq (fun v w1 hE => by obtain ⟨rfl, rfl⟩ := hE; exact k)
theorem d_Xt_nodeAt_0 : decode b_Xt_nodeAt 0 = .ok (.aload_n 0, 1) := by decide +kernel
theorem d_Xt_nodeAt_1 : decode b_Xt_nodeAt 1 = .ok (.getfield 11, 3) := by decide +kernel
theorem d_Xt_nodeAt_4 : decode b_Xt_nodeAt 4 = .ok (.iload_n 1, 1) := by decide +kernel
theorem d_Xt_nodeAt_5 : decode b_Xt_nodeAt 5 = .ok (.iaload, 1) := by decide +kernel
theorem d_Xt_nodeAt_6 : decode b_Xt_nodeAt 6 = .ok (.ireturn, 1) := by decide +kernel
set_option maxHeartbeats 4000000 in
set_option maxRecDepth 100000 in
theorem c_Xt_nodeAt (l : Launch) (dC : Nat → ClassId) (dI : Nat → Nat → Nat) (ad : Nat → Nat) (cA : ClassId) (sz : Nat) (N : Nat) (a1 : Int32) (u : Mem) (r : Int32) (w : Mem) (h : f_Xt_nodeAt N a1 u = some (r, w)) : CtI l y_Xt_nodeAt (Cond.code y_Xt_nodeAt b_Xt_nodeAt 2 (some .int) :: lw_gd) 0 0 (dC, dI) cA [.ref (ad 6), .int a1] (wA ad cA) u sz (fun v w1 => v = r ∧ w1 = w) := by
  refine v_metI (own := R_Xt) [some (.ref (ad 6)), some (.int a1)] rfl (by decide) (Nat.le_of_ble_eq_true rfl) rfl rfl (fun v u h => rfl) ?_
  intro p e s m args below meth c A Q ret
  unfold f_Xt_nodeAt at h
  refine v_aload_n d_Xt_nodeAt_0 rfl rfl ?_
  refine vg_Xt_nodes d_Xt_nodeAt_1 rfl ?_
  refine v_iload_n d_Xt_nodeAt_4 rfl rfl ?_
  obtain ⟨g1, h⟩ := gd_inv h
  refine v_ald 7 (wA_7 ad cA _) d_Xt_nodeAt_5 g1 rfl ?_
  obtain ⟨e1, e2⟩ := rt_inv h
  exact ret _ _ _ _ ⟨e1, e2⟩ d_Xt_nodeAt_6
theorem vc_Sh_Xt_nodeAt {p : Program} {l : Launch} {e : Env} {fr rc rs rl : Nat} {s : State} {m : MethodId} {args : Array Value} {below : List Frame} {meth : Method} {c : Code} {cells slots : Nat} {Q : State → Prop} {A : Nat → Prop} {cc : ByteArray} {nL : Nat} {dC : Nat → ClassId} {dI : Nat → Nat → Nat} {cA : ClassId} {ad : Nat → Nat} {pc q : Nat} {lo : List (Option Value)} {rest : List Value} {u w : Mem} {r : Int32} {N : Nat} {b0 : Int32} (h : f_Xt_nodeAt N b0 u = some (r, w)) (hfr : 0 + 1 ≤ fr) (hrl : 8 + (2 + 11) + 0 ≤ rl) (hrm : (rest.map fun v => v.category).sum ≤ 8) (hd : decode cc pc = .ok (.invokevirtual 176, 3)) (hq : pc + 3 = q) (k : VJ p l e fr rc rs rl s m args below meth c cells slots Q A cc nL R_Sh (dC, dI) cA (wA ad cA) q lo (.int r :: rest) w) : VJ p l e fr rc rs rl s m args below meth c cells slots Q A cc nL R_Sh (dC, dI) cA (wA ad cA) pc lo (.int b0 :: .ref (ad 6) :: rest) u :=
  v_callVI (As := [.int b0]) (rest := rest) (fun sz => c_Xt_nodeAt l dC dI ad cA sz N b0 u r w h) tw_258 tw_259 tw_260 6 (wA_6 ad cA u) rfl rfl tw_261 tw_26 1 rfl (by decide +kernel) hfr hrl rfl hrm hd hq (fun v w1 hE => by obtain ⟨rfl, rfl⟩ := hE; exact k)
theorem d_Xt_objectAt_0 : decode b_Xt_objectAt 0 = .ok (.aload_n 0, 1) := by decide +kernel
theorem d_Xt_objectAt_1 : decode b_Xt_objectAt 1 = .ok (.getfield 15, 3) := by decide +kernel
theorem d_Xt_objectAt_4 : decode b_Xt_objectAt 4 = .ok (.iload_n 1, 1) := by decide +kernel
theorem d_Xt_objectAt_5 : decode b_Xt_objectAt 5 = .ok (.iaload, 1) := by decide +kernel
theorem d_Xt_objectAt_6 : decode b_Xt_objectAt 6 = .ok (.ireturn, 1) := by decide +kernel
set_option maxHeartbeats 4000000 in
set_option maxRecDepth 100000 in
theorem c_Xt_objectAt (l : Launch) (dC : Nat → ClassId) (dI : Nat → Nat → Nat) (ad : Nat → Nat) (cA : ClassId) (sz : Nat) (N : Nat) (a1 : Int32) (u : Mem) (r : Int32) (w : Mem) (h : f_Xt_objectAt N a1 u = some (r, w)) : CtI l y_Xt_objectAt (Cond.code y_Xt_objectAt b_Xt_objectAt 2 (some .int) :: lw_gd) 0 0 (dC, dI) cA [.ref (ad 6), .int a1] (wA ad cA) u sz (fun v w1 => v = r ∧ w1 = w) := by
  refine v_metI (own := R_Xt) [some (.ref (ad 6)), some (.int a1)] rfl (by decide) (Nat.le_of_ble_eq_true rfl) rfl rfl (fun v u h => rfl) ?_
  intro p e s m args below meth c A Q ret
  unfold f_Xt_objectAt at h
  refine v_aload_n d_Xt_objectAt_0 rfl rfl ?_
  refine vg_Xt_objects d_Xt_objectAt_1 rfl ?_
  refine v_iload_n d_Xt_objectAt_4 rfl rfl ?_
  obtain ⟨g1, h⟩ := gd_inv h
  refine v_ald 8 (wA_8 ad cA _) d_Xt_objectAt_5 g1 rfl ?_
  obtain ⟨e1, e2⟩ := rt_inv h
  exact ret _ _ _ _ ⟨e1, e2⟩ d_Xt_objectAt_6
theorem vc_Sh_Xt_objectAt {p : Program} {l : Launch} {e : Env} {fr rc rs rl : Nat} {s : State} {m : MethodId} {args : Array Value} {below : List Frame} {meth : Method} {c : Code} {cells slots : Nat} {Q : State → Prop} {A : Nat → Prop} {cc : ByteArray} {nL : Nat} {dC : Nat → ClassId} {dI : Nat → Nat → Nat} {cA : ClassId} {ad : Nat → Nat} {pc q : Nat} {lo : List (Option Value)} {rest : List Value} {u w : Mem} {r : Int32} {N : Nat} {b0 : Int32} (h : f_Xt_objectAt N b0 u = some (r, w)) (hfr : 0 + 1 ≤ fr) (hrl : 8 + (2 + 11) + 0 ≤ rl) (hrm : (rest.map fun v => v.category).sum ≤ 8) (hd : decode cc pc = .ok (.invokevirtual 179, 3)) (hq : pc + 3 = q) (k : VJ p l e fr rc rs rl s m args below meth c cells slots Q A cc nL R_Sh (dC, dI) cA (wA ad cA) q lo (.int r :: rest) w) : VJ p l e fr rc rs rl s m args below meth c cells slots Q A cc nL R_Sh (dC, dI) cA (wA ad cA) pc lo (.int b0 :: .ref (ad 6) :: rest) u :=
  v_callVI (As := [.int b0]) (rest := rest) (fun sz => c_Xt_objectAt l dC dI ad cA sz N b0 u r w h) tw_262 tw_263 tw_264 6 (wA_6 ad cA u) rfl rfl tw_265 tw_26 1 rfl (by decide +kernel) hfr hrl rfl hrm hd hq (fun v w1 hE => by obtain ⟨rfl, rfl⟩ := hE; exact k)
theorem d_Hp_isHeldByField_0 : decode b_Hp_isHeldByField 0 = .ok (.iconst 0, 1) := by decide +kernel
theorem d_Hp_isHeldByField_1 : decode b_Hp_isHeldByField 1 = .ok (.istore_n 3, 1) := by decide +kernel
theorem d_Hp_isHeldByField_2 : decode b_Hp_isHeldByField 2 = .ok (.iload_n 3, 1) := by decide +kernel
theorem d_Hp_isHeldByField_3 : decode b_Hp_isHeldByField 3 = .ok (.iconst 2, 1) := by decide +kernel
theorem d_Hp_isHeldByField_4 : decode b_Hp_isHeldByField 4 = .ok (.if_icmp .ge 21, 3) := by decide +kernel
theorem d_Hp_isHeldByField_7 : decode b_Hp_isHeldByField 7 = .ok (.aload_n 0, 1) := by decide +kernel
theorem d_Hp_isHeldByField_8 : decode b_Hp_isHeldByField 8 = .ok (.iload_n 1, 1) := by decide +kernel
theorem d_Hp_isHeldByField_9 : decode b_Hp_isHeldByField 9 = .ok (.iload_n 3, 1) := by decide +kernel
theorem d_Hp_isHeldByField_10 : decode b_Hp_isHeldByField 10 = .ok (.invokevirtual 33, 3) := by decide +kernel
theorem d_Hp_isHeldByField_13 : decode b_Hp_isHeldByField 13 = .ok (.iload_n 2, 1) := by decide +kernel
theorem d_Hp_isHeldByField_14 : decode b_Hp_isHeldByField 14 = .ok (.if_icmp .ne 5, 3) := by decide +kernel
theorem d_Hp_isHeldByField_17 : decode b_Hp_isHeldByField 17 = .ok (.iconst 1, 1) := by decide +kernel
theorem d_Hp_isHeldByField_18 : decode b_Hp_isHeldByField 18 = .ok (.ireturn, 1) := by decide +kernel
theorem d_Hp_isHeldByField_19 : decode b_Hp_isHeldByField 19 = .ok (.iinc 3 1, 3) := by decide +kernel
theorem d_Hp_isHeldByField_22 : decode b_Hp_isHeldByField 22 = .ok (.goto (-20), 3) := by decide +kernel
theorem d_Hp_isHeldByField_25 : decode b_Hp_isHeldByField 25 = .ok (.iconst 0, 1) := by decide +kernel
theorem d_Hp_isHeldByField_26 : decode b_Hp_isHeldByField 26 = .ok (.ireturn, 1) := by decide +kernel
set_option maxHeartbeats 4000000 in
set_option maxRecDepth 100000 in
theorem c_Hp_isHeldByField (l : Launch) (dC : Nat → ClassId) (dI : Nat → Nat → Nat) (ad : Nat → Nat) (cA : ClassId) (sz : Nat) (N : Nat) (a1 a2 : Int32) (u : Mem) (r : Int32) (w : Mem) (h : f_Hp_isHeldByField N a1 a2 u = some (r, w)) : CtI l y_Hp_isHeldByField (Cond.code y_Hp_isHeldByField b_Hp_isHeldByField 4 (some .boolean) :: lw_gd) 1 22 (dC, dI) cA [.ref (ad 2), .int a1, .int a2] (wA ad cA) u sz (fun v w1 => v = r ∧ w1 = w ∧ (v = 0 ∨ v = 1)) := by
  refine v_metI (own := R_Hp) [some (.ref (ad 2)), some (.int a1), some (.int a2), none] rfl (by decide) (Nat.le_of_ble_eq_true rfl) rfl rfl (fun v u h => by rcases h.2.2 with h | h <;> rw [h] <;> rfl) ?_
  intro p e s m args below meth c A Q ret
  unfold f_Hp_isHeldByField at h
  refine v_iconst 0 d_Hp_isHeldByField_0 (by decide) rfl ?_
  refine v_istore_n (lo' := [_, _, _, _]) d_Hp_isHeldByField_1 rfl (by decide) rfl ?_
  have L2 : ∀ (κ : Mem → Rs), (∀ (u10 : Mem), κ u10 = some (r, w) → VJ p l e 1 0 0 22 s m args below meth c 0 0 Q A b_Hp_isHeldByField 4 R_Hp (dC, dI) cA (wA ad cA) 25 [none, none, none, none] [] u10) → ∀ (n : Nat) (x1 x2 x3 : Int32) (u4 : Mem), k_Hp_isHeldByField_2 N κ n x1 x2 x3 u4 = some (r, w) → VJ p l e 1 0 0 22 s m args below meth c 0 0 Q A b_Hp_isHeldByField 4 R_Hp (dC, dI) cA (wA ad cA) 2 [some (.ref (ad 2)), some (.int x1), some (.int x2), some (.int x3)] [] u4 := by
    intro κ hκ n
    induction n with
    | zero =>
      intro x1 x2 x3 u4 h
      exact no_ns h
    | succ n ih =>
      intro x1 x2 x3 u4 h
      unfold k_Hp_isHeldByField_2 at h
      refine v_iload_n d_Hp_isHeldByField_2 rfl rfl ?_
      refine v_iconst 2 d_Hp_isHeldByField_3 (by decide) rfl ?_
      refine v_icmp_ge 25 d_Hp_isHeldByField_4 (by decide) rfl (fun c9 => ?_) (fun c9 => ?_)
      · replace h := (if_pos c9).symm.trans h
        refine v_drop 0 (lo' := [none, _, _, _]) rfl ?_
        refine v_drop 1 (lo' := [none, none, _, _]) rfl ?_
        refine v_drop 2 (lo' := [none, none, none, _]) rfl ?_
        refine v_drop 3 (lo' := [none, none, none, none]) rfl ?_
        exact hκ _ h
      · replace h := (if_neg c9).symm.trans h
        refine v_aload_n d_Hp_isHeldByField_7 rfl rfl ?_
        refine v_iload_n d_Hp_isHeldByField_8 rfl rfl ?_
        refine v_iload_n d_Hp_isHeldByField_9 rfl rfl ?_
        obtain ⟨y5, u6, hc7, h⟩ := bd_inv h
        refine vc_Hp_Hp_fieldAt hc7 (Nat.le_of_ble_eq_true rfl) (Nat.le_of_ble_eq_true rfl) (Nat.le_of_ble_eq_true rfl) d_Hp_isHeldByField_10 rfl ?_
        refine v_iload_n d_Hp_isHeldByField_13 rfl rfl ?_
        refine v_icmp_ne 19 d_Hp_isHeldByField_14 (by decide) rfl (fun c8 => ?_) (fun c8 => ?_)
        · replace h := (if_pos c8).symm.trans h
          refine v_iconst 1 d_Hp_isHeldByField_17 (by decide) rfl ?_
          obtain ⟨e1, e2⟩ := rt_inv h
          exact ret _ _ _ _ ⟨e1, e2, Or.inr rfl⟩ d_Hp_isHeldByField_18
        · replace h := (if_neg c8).symm.trans h
          refine v_iinc (lo' := [_, _, _, _]) 1 d_Hp_isHeldByField_19 (by decide) rfl rfl (by decide) rfl ?_
          refine v_goto 2 d_Hp_isHeldByField_22 (by decide) ?_
          exact ih _ _ _ _ h
  refine L2 _ (fun u10 h => ?_) N _ _ _ _ h
  refine v_iconst 0 d_Hp_isHeldByField_25 (by decide) rfl ?_
  obtain ⟨e1, e2⟩ := rt_inv h
  exact ret _ _ _ _ ⟨e1, e2, Or.inl rfl⟩ d_Hp_isHeldByField_26
theorem vc_Sh_Hp_isHeldByField {p : Program} {l : Launch} {e : Env} {fr rc rs rl : Nat} {s : State} {m : MethodId} {args : Array Value} {below : List Frame} {meth : Method} {c : Code} {cells slots : Nat} {Q : State → Prop} {A : Nat → Prop} {cc : ByteArray} {nL : Nat} {dC : Nat → ClassId} {dI : Nat → Nat → Nat} {cA : ClassId} {ad : Nat → Nat} {pc q : Nat} {lo : List (Option Value)} {rest : List Value} {u w : Mem} {r : Int32} {N : Nat} {b0 b1 : Int32} (h : f_Hp_isHeldByField N b0 b1 u = some (r, w)) (hfr : 1 + 1 ≤ fr) (hrl : 8 + (4 + 11) + 22 ≤ rl) (hrm : (rest.map fun v => v.category).sum ≤ 8) (hd : decode cc pc = .ok (.invokevirtual 172, 3)) (hq : pc + 3 = q) (k : VJ p l e fr rc rs rl s m args below meth c cells slots Q A cc nL R_Sh (dC, dI) cA (wA ad cA) q lo (.int r :: rest) w) : VJ p l e fr rc rs rl s m args below meth c cells slots Q A cc nL R_Sh (dC, dI) cA (wA ad cA) pc lo (.int b1 :: .int b0 :: .ref (ad 2) :: rest) u :=
  v_callVI (As := [.int b0, .int b1]) (rest := rest) (fun sz => c_Hp_isHeldByField l dC dI ad cA sz N b0 b1 u r w h) tw_270 tw_271 tw_272 2 (wA_2 ad cA u) rfl rfl tw_273 tw_25 2 rfl (by decide +kernel) hfr hrl rfl hrm hd hq (fun v w1 hE => by obtain ⟨rfl, rfl, -⟩ := hE; exact k)
theorem d_Sh_reachOfExit_0 : decode b_Sh_reachOfExit 0 = .ok (.aload_n 0, 1) := by decide +kernel
theorem d_Sh_reachOfExit_1 : decode b_Sh_reachOfExit 1 = .ok (.iload_n 1, 1) := by decide +kernel
theorem d_Sh_reachOfExit_2 : decode b_Sh_reachOfExit 2 = .ok (.iload_n 2, 1) := by decide +kernel
theorem d_Sh_reachOfExit_3 : decode b_Sh_reachOfExit 3 = .ok (.invokevirtual 163, 3) := by decide +kernel
theorem d_Sh_reachOfExit_6 : decode b_Sh_reachOfExit 6 = .ok (.ifCond .eq 8, 3) := by decide +kernel
theorem d_Sh_reachOfExit_9 : decode b_Sh_reachOfExit 9 = .ok (.aload_n 0, 1) := by decide +kernel
theorem d_Sh_reachOfExit_10 : decode b_Sh_reachOfExit 10 = .ok (.getfield 56, 3) := by decide +kernel
theorem d_Sh_reachOfExit_13 : decode b_Sh_reachOfExit 13 = .ok (.ireturn, 1) := by decide +kernel
theorem d_Sh_reachOfExit_14 : decode b_Sh_reachOfExit 14 = .ok (.iconst (-1), 1) := by decide +kernel
theorem d_Sh_reachOfExit_15 : decode b_Sh_reachOfExit 15 = .ok (.istore_n 3, 1) := by decide +kernel
theorem d_Sh_reachOfExit_16 : decode b_Sh_reachOfExit 16 = .ok (.iload_n 1, 1) := by decide +kernel
theorem d_Sh_reachOfExit_17 : decode b_Sh_reachOfExit 17 = .ok (.bipush 8, 2) := by decide +kernel
theorem d_Sh_reachOfExit_19 : decode b_Sh_reachOfExit 19 = .ok (.imul, 1) := by decide +kernel
theorem d_Sh_reachOfExit_20 : decode b_Sh_reachOfExit 20 = .ok (.istore 4, 2) := by decide +kernel
theorem d_Sh_reachOfExit_22 : decode b_Sh_reachOfExit 22 = .ok (.iload 4, 2) := by decide +kernel
theorem d_Sh_reachOfExit_24 : decode b_Sh_reachOfExit 24 = .ok (.iload_n 1, 1) := by decide +kernel
theorem d_Sh_reachOfExit_25 : decode b_Sh_reachOfExit 25 = .ok (.iconst 1, 1) := by decide +kernel
theorem d_Sh_reachOfExit_26 : decode b_Sh_reachOfExit 26 = .ok (.iadd, 1) := by decide +kernel
theorem d_Sh_reachOfExit_27 : decode b_Sh_reachOfExit 27 = .ok (.bipush 8, 2) := by decide +kernel
theorem d_Sh_reachOfExit_29 : decode b_Sh_reachOfExit 29 = .ok (.imul, 1) := by decide +kernel
theorem d_Sh_reachOfExit_30 : decode b_Sh_reachOfExit 30 = .ok (.if_icmp .ge 34, 3) := by decide +kernel
theorem d_Sh_reachOfExit_33 : decode b_Sh_reachOfExit 33 = .ok (.aload_n 0, 1) := by decide +kernel
theorem d_Sh_reachOfExit_34 : decode b_Sh_reachOfExit 34 = .ok (.getfield 16, 3) := by decide +kernel
theorem d_Sh_reachOfExit_37 : decode b_Sh_reachOfExit 37 = .ok (.iload 4, 2) := by decide +kernel
theorem d_Sh_reachOfExit_39 : decode b_Sh_reachOfExit 39 = .ok (.iload_n 2, 1) := by decide +kernel
theorem d_Sh_reachOfExit_40 : decode b_Sh_reachOfExit 40 = .ok (.invokevirtual 172, 3) := by decide +kernel
theorem d_Sh_reachOfExit_43 : decode b_Sh_reachOfExit 43 = .ok (.ifCond .eq 15, 3) := by decide +kernel
theorem d_Sh_reachOfExit_46 : decode b_Sh_reachOfExit 46 = .ok (.iload_n 3, 1) := by decide +kernel
theorem d_Sh_reachOfExit_47 : decode b_Sh_reachOfExit 47 = .ok (.aload_n 0, 1) := by decide +kernel
theorem d_Sh_reachOfExit_48 : decode b_Sh_reachOfExit 48 = .ok (.getfield 40, 3) := by decide +kernel
theorem d_Sh_reachOfExit_51 : decode b_Sh_reachOfExit 51 = .ok (.iload 4, 2) := by decide +kernel
theorem d_Sh_reachOfExit_53 : decode b_Sh_reachOfExit 53 = .ok (.iaload, 1) := by decide +kernel
theorem d_Sh_reachOfExit_54 : decode b_Sh_reachOfExit 54 = .ok (.invokestatic 133, 3) := by decide +kernel
theorem d_Sh_reachOfExit_57 : decode b_Sh_reachOfExit 57 = .ok (.istore_n 3, 1) := by decide +kernel
theorem d_Sh_reachOfExit_58 : decode b_Sh_reachOfExit 58 = .ok (.iinc 4 1, 3) := by decide +kernel
theorem d_Sh_reachOfExit_61 : decode b_Sh_reachOfExit 61 = .ok (.goto (-39), 3) := by decide +kernel
theorem d_Sh_reachOfExit_64 : decode b_Sh_reachOfExit 64 = .ok (.iload_n 3, 1) := by decide +kernel
theorem d_Sh_reachOfExit_65 : decode b_Sh_reachOfExit 65 = .ok (.ireturn, 1) := by decide +kernel
set_option maxHeartbeats 4000000 in
set_option maxRecDepth 100000 in
theorem c_Sh_reachOfExit (l : Launch) (dC : Nat → ClassId) (dI : Nat → Nat → Nat) (ad : Nat → Nat) (cA : ClassId) (sz : Nat) (N : Nat) (a1 a2 : Int32) (u : Mem) (r : Int32) (w : Mem) (h : f_Sh_reachOfExit N a1 a2 u = some (r, w)) : CtI l y_Sh_reachOfExit (Cond.code y_Sh_reachOfExit b_Sh_reachOfExit 5 (some .int) :: lw_gd) 2 45 (dC, dI) cA [.ref (ad 0), .int a1, .int a2] (wA ad cA) u sz (fun v w1 => v = r ∧ w1 = w) := by
  refine v_metI (own := R_Sh) [some (.ref (ad 0)), some (.int a1), some (.int a2), none, none] rfl (by decide) (Nat.le_of_ble_eq_true rfl) rfl rfl (fun v u h => rfl) ?_
  intro p e s m args below meth c A Q ret
  unfold f_Sh_reachOfExit at h
  refine v_aload_n d_Sh_reachOfExit_0 rfl rfl ?_
  refine v_iload_n d_Sh_reachOfExit_1 rfl rfl ?_
  refine v_iload_n d_Sh_reachOfExit_2 rfl rfl ?_
  obtain ⟨y1, u2, hc3, h⟩ := bd_inv h
  refine vc_Sh_Sh_isHeldByRoot hc3 (Nat.le_of_ble_eq_true rfl) (Nat.le_of_ble_eq_true rfl) (Nat.le_of_ble_eq_true rfl) d_Sh_reachOfExit_3 rfl ?_
  refine v_if_eq 14 d_Sh_reachOfExit_6 (by decide) rfl (fun c17 => ?_) (fun c17 => ?_)
  · replace h := (if_pos c17).symm.trans h
    refine v_iconst (-1) d_Sh_reachOfExit_14 (by decide) rfl ?_
    refine v_istore_n (lo' := [_, _, _, _, none]) d_Sh_reachOfExit_15 rfl (by decide) rfl ?_
    refine v_iload_n d_Sh_reachOfExit_16 rfl rfl ?_
    refine v_bipush 8 d_Sh_reachOfExit_17 (by decide) rfl ?_
    refine v_imul d_Sh_reachOfExit_19 rfl ?_
    refine v_istore (lo' := [_, _, _, _, _]) d_Sh_reachOfExit_20 rfl (by decide) rfl ?_
    have L22 : ∀ (κ : Int32 → Mem → Rs), (∀ (x15 : Int32) (u16 : Mem), κ x15 u16 = some (r, w) → VJ p l e 2 0 0 45 s m args below meth c 0 0 Q A b_Sh_reachOfExit 5 R_Sh (dC, dI) cA (wA ad cA) 64 [none, none, none, some (.int x15), none] [] u16) → ∀ (n : Nat) (x4 x5 x6 x7 : Int32) (u8 : Mem), k_Sh_reachOfExit_22 N κ n x4 x5 x6 x7 u8 = some (r, w) → VJ p l e 2 0 0 45 s m args below meth c 0 0 Q A b_Sh_reachOfExit 5 R_Sh (dC, dI) cA (wA ad cA) 22 [some (.ref (ad 0)), some (.int x4), some (.int x5), some (.int x6), some (.int x7)] [] u8 := by
      intro κ hκ n
      induction n with
      | zero =>
        intro x4 x5 x6 x7 u8 h
        exact no_ns h
      | succ n ih =>
        intro x4 x5 x6 x7 u8 h
        unfold k_Sh_reachOfExit_22 at h
        refine v_iload d_Sh_reachOfExit_22 rfl rfl ?_
        refine v_iload_n d_Sh_reachOfExit_24 rfl rfl ?_
        refine v_iconst 1 d_Sh_reachOfExit_25 (by decide) rfl ?_
        refine v_iadd d_Sh_reachOfExit_26 rfl ?_
        refine v_bipush 8 d_Sh_reachOfExit_27 (by decide) rfl ?_
        refine v_imul d_Sh_reachOfExit_29 rfl ?_
        refine v_icmp_ge 64 d_Sh_reachOfExit_30 (by decide) rfl (fun c14 => ?_) (fun c14 => ?_)
        · replace h := (if_pos c14).symm.trans h
          refine v_drop 0 (lo' := [none, _, _, _, _]) rfl ?_
          refine v_drop 1 (lo' := [none, none, _, _, _]) rfl ?_
          refine v_drop 2 (lo' := [none, none, none, _, _]) rfl ?_
          refine v_drop 4 (lo' := [none, none, none, _, none]) rfl ?_
          exact hκ _ _ h
        · replace h := (if_neg c14).symm.trans h
          refine v_aload_n d_Sh_reachOfExit_33 rfl rfl ?_
          refine vg_Sh_heap d_Sh_reachOfExit_34 rfl ?_
          refine v_iload d_Sh_reachOfExit_37 rfl rfl ?_
          refine v_iload_n d_Sh_reachOfExit_39 rfl rfl ?_
          obtain ⟨y9, u10, hc11, h⟩ := bd_inv h
          refine vc_Sh_Hp_isHeldByField hc11 (Nat.le_of_ble_eq_true rfl) (Nat.le_of_ble_eq_true rfl) (Nat.le_of_ble_eq_true rfl) d_Sh_reachOfExit_40 rfl ?_
          refine v_if_eq 58 d_Sh_reachOfExit_43 (by decide) rfl (fun c13 => ?_) (fun c13 => ?_)
          · replace h := (if_pos c13).symm.trans h
            refine v_iinc (lo' := [_, _, _, _, _]) 1 d_Sh_reachOfExit_58 (by decide) rfl rfl (by decide) rfl ?_
            refine v_goto 22 d_Sh_reachOfExit_61 (by decide) ?_
            exact ih _ _ _ _ _ h
          · replace h := (if_neg c13).symm.trans h
            refine v_iload_n d_Sh_reachOfExit_46 rfl rfl ?_
            refine v_aload_n d_Sh_reachOfExit_47 rfl rfl ?_
            refine vg_Sh_reached d_Sh_reachOfExit_48 rfl ?_
            refine v_iload d_Sh_reachOfExit_51 rfl rfl ?_
            obtain ⟨g12, h⟩ := gd_inv h
            refine v_ald 14 (wA_14 ad cA _) d_Sh_reachOfExit_53 g12 rfl ?_
            refine v_mmax tw_247 tw_248 tw_29 tw_249 (Nat.le_of_ble_eq_true rfl) (Nat.le_of_ble_eq_true rfl) d_Sh_reachOfExit_54 rfl ?_
            refine v_istore_n (lo' := [_, _, _, _, _]) d_Sh_reachOfExit_57 rfl (by decide) rfl ?_
            refine v_iinc (lo' := [_, _, _, _, _]) 1 d_Sh_reachOfExit_58 (by decide) rfl rfl (by decide) rfl ?_
            refine v_goto 22 d_Sh_reachOfExit_61 (by decide) ?_
            exact ih _ _ _ _ _ h
    refine L22 _ (fun x15 u16 h => ?_) N _ _ _ _ _ h
    refine v_iload_n d_Sh_reachOfExit_64 rfl rfl ?_
    obtain ⟨e1, e2⟩ := rt_inv h
    exact ret _ _ _ _ ⟨e1, e2⟩ d_Sh_reachOfExit_65
  · replace h := (if_neg c17).symm.trans h
    refine v_aload_n d_Sh_reachOfExit_9 rfl rfl ?_
    refine vg_Sh_clock d_Sh_reachOfExit_10 rfl ?_
    obtain ⟨e1, e2⟩ := rt_inv h
    exact ret _ _ _ _ ⟨e1, e2⟩ d_Sh_reachOfExit_13
theorem vc_Sh_Sh_reachOfExit {p : Program} {l : Launch} {e : Env} {fr rc rs rl : Nat} {s : State} {m : MethodId} {args : Array Value} {below : List Frame} {meth : Method} {c : Code} {cells slots : Nat} {Q : State → Prop} {A : Nat → Prop} {cc : ByteArray} {nL : Nat} {dC : Nat → ClassId} {dI : Nat → Nat → Nat} {cA : ClassId} {ad : Nat → Nat} {pc q : Nat} {lo : List (Option Value)} {rest : List Value} {u w : Mem} {r : Int32} {N : Nat} {b0 b1 : Int32} (h : f_Sh_reachOfExit N b0 b1 u = some (r, w)) (hfr : 2 + 1 ≤ fr) (hrl : 8 + (5 + 11) + 45 ≤ rl) (hrm : (rest.map fun v => v.category).sum ≤ 8) (hd : decode cc pc = .ok (.invokevirtual 182, 3)) (hq : pc + 3 = q) (k : VJ p l e fr rc rs rl s m args below meth c cells slots Q A cc nL R_Sh (dC, dI) cA (wA ad cA) q lo (.int r :: rest) w) : VJ p l e fr rc rs rl s m args below meth c cells slots Q A cc nL R_Sh (dC, dI) cA (wA ad cA) pc lo (.int b1 :: .int b0 :: .ref (ad 0) :: rest) u :=
  v_callVI (As := [.int b0, .int b1]) (rest := rest) (fun sz => c_Sh_reachOfExit l dC dI ad cA sz N b0 b1 u r w h) tw_266 tw_268 tw_10 0 (wA_0 ad cA u) rfl rfl tw_269 tw_24 2 rfl (by decide +kernel) hfr hrl rfl hrm hd hq (fun v w1 hE => by obtain ⟨rfl, rfl⟩ := hE; exact k)
theorem d_Xt_removeAt_0 : decode b_Xt_removeAt 0 = .ok (.iload_n 1, 1) := by decide +kernel
theorem d_Xt_removeAt_1 : decode b_Xt_removeAt 1 = .ok (.iconst 1, 1) := by decide +kernel
theorem d_Xt_removeAt_2 : decode b_Xt_removeAt 2 = .ok (.iadd, 1) := by decide +kernel
theorem d_Xt_removeAt_3 : decode b_Xt_removeAt 3 = .ok (.istore_n 2, 1) := by decide +kernel
theorem d_Xt_removeAt_4 : decode b_Xt_removeAt 4 = .ok (.iload_n 2, 1) := by decide +kernel
theorem d_Xt_removeAt_5 : decode b_Xt_removeAt 5 = .ok (.aload_n 0, 1) := by decide +kernel
theorem d_Xt_removeAt_6 : decode b_Xt_removeAt 6 = .ok (.getfield 21, 3) := by decide +kernel
theorem d_Xt_removeAt_9 : decode b_Xt_removeAt 9 = .ok (.if_icmp .ge 17, 3) := by decide +kernel
theorem d_Xt_removeAt_12 : decode b_Xt_removeAt 12 = .ok (.aload_n 0, 1) := by decide +kernel
theorem d_Xt_removeAt_13 : decode b_Xt_removeAt 13 = .ok (.iload_n 2, 1) := by decide +kernel
theorem d_Xt_removeAt_14 : decode b_Xt_removeAt 14 = .ok (.iload_n 2, 1) := by decide +kernel
theorem d_Xt_removeAt_15 : decode b_Xt_removeAt 15 = .ok (.iconst 1, 1) := by decide +kernel
theorem d_Xt_removeAt_16 : decode b_Xt_removeAt 16 = .ok (.isub, 1) := by decide +kernel
theorem d_Xt_removeAt_17 : decode b_Xt_removeAt 17 = .ok (.invokevirtual 33, 3) := by decide +kernel
theorem d_Xt_removeAt_20 : decode b_Xt_removeAt 20 = .ok (.iinc 2 1, 3) := by decide +kernel
theorem d_Xt_removeAt_23 : decode b_Xt_removeAt 23 = .ok (.goto (-19), 3) := by decide +kernel
theorem d_Xt_removeAt_26 : decode b_Xt_removeAt 26 = .ok (.aload_n 0, 1) := by decide +kernel
theorem d_Xt_removeAt_27 : decode b_Xt_removeAt 27 = .ok (.dup, 1) := by decide +kernel
theorem d_Xt_removeAt_28 : decode b_Xt_removeAt 28 = .ok (.getfield 21, 3) := by decide +kernel
theorem d_Xt_removeAt_31 : decode b_Xt_removeAt 31 = .ok (.iconst 1, 1) := by decide +kernel
theorem d_Xt_removeAt_32 : decode b_Xt_removeAt 32 = .ok (.isub, 1) := by decide +kernel
theorem d_Xt_removeAt_33 : decode b_Xt_removeAt 33 = .ok (.putfield 21, 3) := by decide +kernel
theorem d_Xt_removeAt_36 : decode b_Xt_removeAt 36 = .ok (.return_, 1) := by decide +kernel
set_option maxHeartbeats 4000000 in
set_option maxRecDepth 100000 in
theorem c_Xt_removeAt (l : Launch) (dC : Nat → ClassId) (dI : Nat → Nat → Nat) (ad : Nat → Nat) (cA : ClassId) (sz : Nat) (N : Nat) (a1 : Int32) (u : Mem) (r : Int32) (w : Mem) (h : f_Xt_removeAt N a1 u = some (r, w)) : CtV l y_Xt_removeAt (Cond.code y_Xt_removeAt b_Xt_removeAt 3 none :: lw_gd) 1 22 (dC, dI) cA [.ref (ad 6), .int a1] (wA ad cA) u sz (fun w1 => w1 = w) := by
  refine v_metV (own := R_Xt) [some (.ref (ad 6)), some (.int a1), none] rfl (by decide) (Nat.le_of_ble_eq_true rfl) rfl rfl ?_
  intro p e s m args below meth c A Q ret
  unfold f_Xt_removeAt at h
  refine v_iload_n d_Xt_removeAt_0 rfl rfl ?_
  refine v_iconst 1 d_Xt_removeAt_1 (by decide) rfl ?_
  refine v_iadd d_Xt_removeAt_2 rfl ?_
  refine v_istore_n (lo' := [_, _, _]) d_Xt_removeAt_3 rfl (by decide) rfl ?_
  have L4 : ∀ (κ : Mem → Rs), (∀ (u7 : Mem), κ u7 = some (r, w) → VJ p l e 1 0 0 22 s m args below meth c 0 0 Q A b_Xt_removeAt 3 R_Xt (dC, dI) cA (wA ad cA) 26 [some (.ref (ad 6)), none, none] [] u7) → ∀ (n : Nat) (x1 : Int32) (u2 : Mem), k_Xt_removeAt_4 N κ n x1 u2 = some (r, w) → VJ p l e 1 0 0 22 s m args below meth c 0 0 Q A b_Xt_removeAt 3 R_Xt (dC, dI) cA (wA ad cA) 4 [some (.ref (ad 6)), none, some (.int x1)] [] u2 := by
    intro κ hκ n
    induction n with
    | zero =>
      intro x1 u2 h
      exact no_ns h
    | succ n ih =>
      intro x1 u2 h
      unfold k_Xt_removeAt_4 at h
      refine v_iload_n d_Xt_removeAt_4 rfl rfl ?_
      refine v_aload_n d_Xt_removeAt_5 rfl rfl ?_
      refine vg_Xt_size d_Xt_removeAt_6 rfl ?_
      refine v_icmp_ge 26 d_Xt_removeAt_9 (by decide) rfl (fun c6 => ?_) (fun c6 => ?_)
      · replace h := (if_pos c6).symm.trans h
        refine v_drop 2 (lo' := [_, none, none]) rfl ?_
        exact hκ _ h
      · replace h := (if_neg c6).symm.trans h
        refine v_aload_n d_Xt_removeAt_12 rfl rfl ?_
        refine v_iload_n d_Xt_removeAt_13 rfl rfl ?_
        refine v_iload_n d_Xt_removeAt_14 rfl rfl ?_
        refine v_iconst 1 d_Xt_removeAt_15 (by decide) rfl ?_
        refine v_isub d_Xt_removeAt_16 rfl ?_
        obtain ⟨_y3, u4, hc5, h⟩ := bd_inv h
        refine vc_Xt_Xt_copyRow hc5 (Nat.le_of_ble_eq_true rfl) (Nat.le_of_ble_eq_true rfl) (Nat.le_of_ble_eq_true rfl) d_Xt_removeAt_17 rfl ?_
        refine v_iinc (lo' := [_, none, _]) 1 d_Xt_removeAt_20 (by decide) rfl rfl (by decide) rfl ?_
        refine v_goto 4 d_Xt_removeAt_23 (by decide) ?_
        exact ih _ _ h
  refine v_drop 1 (lo' := [_, none, _]) rfl ?_
  refine L4 _ (fun u7 h => ?_) N _ _ h
  refine v_aload_n d_Xt_removeAt_26 rfl rfl ?_
  refine v_dup d_Xt_removeAt_27 rfl rfl ?_
  refine vg_Xt_size d_Xt_removeAt_28 rfl ?_
  refine v_iconst 1 d_Xt_removeAt_31 (by decide) rfl ?_
  refine v_isub d_Xt_removeAt_32 rfl ?_
  obtain ⟨u8, eu8, h⟩ := jn_inv h
  refine vp_Xt_size eu8 d_Xt_removeAt_33 rfl ?_
  obtain ⟨-, e2⟩ := rt_inv h
  exact ret _ _ _ e2 d_Xt_removeAt_36
theorem vc_Sh_Xt_removeAt {p : Program} {l : Launch} {e : Env} {fr rc rs rl : Nat} {s : State} {m : MethodId} {args : Array Value} {below : List Frame} {meth : Method} {c : Code} {cells slots : Nat} {Q : State → Prop} {A : Nat → Prop} {cc : ByteArray} {nL : Nat} {dC : Nat → ClassId} {dI : Nat → Nat → Nat} {cA : ClassId} {ad : Nat → Nat} {pc q : Nat} {lo : List (Option Value)} {rest : List Value} {u w : Mem} {r : Int32} {N : Nat} {b0 : Int32} (h : f_Xt_removeAt N b0 u = some (r, w)) (hfr : 1 + 1 ≤ fr) (hrl : 8 + (3 + 11) + 22 ≤ rl) (hrm : (rest.map fun v => v.category).sum ≤ 8) (hd : decode cc pc = .ok (.invokevirtual 185, 3)) (hq : pc + 3 = q) (k : VJ p l e fr rc rs rl s m args below meth c cells slots Q A cc nL R_Sh (dC, dI) cA (wA ad cA) q lo rest w) : VJ p l e fr rc rs rl s m args below meth c cells slots Q A cc nL R_Sh (dC, dI) cA (wA ad cA) pc lo (.int b0 :: .ref (ad 6) :: rest) u :=
  v_callVV (As := [.int b0]) (rest := rest) (fun sz => c_Xt_removeAt l dC dI ad cA sz N b0 u r w h) tw_275 tw_276 tw_277 6 (wA_6 ad cA u) rfl rfl tw_278 tw_26 1 rfl (by decide +kernel) hfr hrl rfl hrm hd hq (fun w1 hE => by subst hE; exact k)
theorem d_Sh_takeUnreachedExits_0 : decode b_Sh_takeUnreachedExits 0 = .ok (.aload_n 0, 1) := by decide +kernel
theorem d_Sh_takeUnreachedExits_1 : decode b_Sh_takeUnreachedExits 1 = .ok (.getfield 23, 3) := by decide +kernel
theorem d_Sh_takeUnreachedExits_4 : decode b_Sh_takeUnreachedExits 4 = .ok (.invokevirtual 175, 3) := by decide +kernel
theorem d_Sh_takeUnreachedExits_7 : decode b_Sh_takeUnreachedExits 7 = .ok (.iconst 1, 1) := by decide +kernel
theorem d_Sh_takeUnreachedExits_8 : decode b_Sh_takeUnreachedExits 8 = .ok (.isub, 1) := by decide +kernel
theorem d_Sh_takeUnreachedExits_9 : decode b_Sh_takeUnreachedExits 9 = .ok (.istore_n 2, 1) := by decide +kernel
theorem d_Sh_takeUnreachedExits_10 : decode b_Sh_takeUnreachedExits 10 = .ok (.iload_n 2, 1) := by decide +kernel
theorem d_Sh_takeUnreachedExits_11 : decode b_Sh_takeUnreachedExits 11 = .ok (.ifCond .lt 46, 3) := by decide +kernel
theorem d_Sh_takeUnreachedExits_14 : decode b_Sh_takeUnreachedExits 14 = .ok (.aload_n 0, 1) := by decide +kernel
theorem d_Sh_takeUnreachedExits_15 : decode b_Sh_takeUnreachedExits 15 = .ok (.getfield 23, 3) := by decide +kernel
theorem d_Sh_takeUnreachedExits_18 : decode b_Sh_takeUnreachedExits 18 = .ok (.iload_n 2, 1) := by decide +kernel
theorem d_Sh_takeUnreachedExits_19 : decode b_Sh_takeUnreachedExits 19 = .ok (.invokevirtual 176, 3) := by decide +kernel
theorem d_Sh_takeUnreachedExits_22 : decode b_Sh_takeUnreachedExits 22 = .ok (.iload_n 1, 1) := by decide +kernel
theorem d_Sh_takeUnreachedExits_23 : decode b_Sh_takeUnreachedExits 23 = .ok (.if_icmp .ne 28, 3) := by decide +kernel
theorem d_Sh_takeUnreachedExits_26 : decode b_Sh_takeUnreachedExits 26 = .ok (.aload_n 0, 1) := by decide +kernel
theorem d_Sh_takeUnreachedExits_27 : decode b_Sh_takeUnreachedExits 27 = .ok (.iload_n 1, 1) := by decide +kernel
theorem d_Sh_takeUnreachedExits_28 : decode b_Sh_takeUnreachedExits 28 = .ok (.aload_n 0, 1) := by decide +kernel
theorem d_Sh_takeUnreachedExits_29 : decode b_Sh_takeUnreachedExits 29 = .ok (.getfield 23, 3) := by decide +kernel
theorem d_Sh_takeUnreachedExits_32 : decode b_Sh_takeUnreachedExits 32 = .ok (.iload_n 2, 1) := by decide +kernel
theorem d_Sh_takeUnreachedExits_33 : decode b_Sh_takeUnreachedExits 33 = .ok (.invokevirtual 179, 3) := by decide +kernel
theorem d_Sh_takeUnreachedExits_36 : decode b_Sh_takeUnreachedExits 36 = .ok (.invokevirtual 182, 3) := by decide +kernel
theorem d_Sh_takeUnreachedExits_39 : decode b_Sh_takeUnreachedExits 39 = .ok (.iconst (-1), 1) := by decide +kernel
theorem d_Sh_takeUnreachedExits_40 : decode b_Sh_takeUnreachedExits 40 = .ok (.if_icmp .ne 11, 3) := by decide +kernel
theorem d_Sh_takeUnreachedExits_43 : decode b_Sh_takeUnreachedExits 43 = .ok (.aload_n 0, 1) := by decide +kernel
theorem d_Sh_takeUnreachedExits_44 : decode b_Sh_takeUnreachedExits 44 = .ok (.getfield 23, 3) := by decide +kernel
theorem d_Sh_takeUnreachedExits_47 : decode b_Sh_takeUnreachedExits 47 = .ok (.iload_n 2, 1) := by decide +kernel
theorem d_Sh_takeUnreachedExits_48 : decode b_Sh_takeUnreachedExits 48 = .ok (.invokevirtual 185, 3) := by decide +kernel
theorem d_Sh_takeUnreachedExits_51 : decode b_Sh_takeUnreachedExits 51 = .ok (.iinc 2 (-1), 3) := by decide +kernel
theorem d_Sh_takeUnreachedExits_54 : decode b_Sh_takeUnreachedExits 54 = .ok (.goto (-44), 3) := by decide +kernel
theorem d_Sh_takeUnreachedExits_57 : decode b_Sh_takeUnreachedExits 57 = .ok (.return_, 1) := by decide +kernel
set_option maxHeartbeats 4000000 in
set_option maxRecDepth 100000 in
theorem c_Sh_takeUnreachedExits (l : Launch) (dC : Nat → ClassId) (dI : Nat → Nat → Nat) (ad : Nat → Nat) (cA : ClassId) (sz : Nat) (N : Nat) (a1 : Int32) (u : Mem) (r : Int32) (w : Mem) (h : f_Sh_takeUnreachedExits N a1 u = some (r, w)) : CtV l y_Sh_takeUnreachedExits (Cond.code y_Sh_takeUnreachedExits b_Sh_takeUnreachedExits 3 none :: lw_gd) 3 69 (dC, dI) cA [.ref (ad 0), .int a1] (wA ad cA) u sz (fun w1 => w1 = w) := by
  refine v_metV (own := R_Sh) [some (.ref (ad 0)), some (.int a1), none] rfl (by decide) (Nat.le_of_ble_eq_true rfl) rfl rfl ?_
  intro p e s m args below meth c A Q ret
  unfold f_Sh_takeUnreachedExits at h
  refine v_aload_n d_Sh_takeUnreachedExits_0 rfl rfl ?_
  refine vg_Sh_exits d_Sh_takeUnreachedExits_1 rfl ?_
  obtain ⟨y1, u2, hc3, h⟩ := bd_inv h
  refine vc_Sh_Xt_size hc3 (Nat.le_of_ble_eq_true rfl) (Nat.le_of_ble_eq_true rfl) (Nat.le_of_ble_eq_true rfl) d_Sh_takeUnreachedExits_4 rfl ?_
  refine v_iconst 1 d_Sh_takeUnreachedExits_7 (by decide) rfl ?_
  refine v_isub d_Sh_takeUnreachedExits_8 rfl ?_
  refine v_istore_n (lo' := [_, _, _]) d_Sh_takeUnreachedExits_9 rfl (by decide) rfl ?_
  have L10 : ∀ (κ : Mem → Rs), (∀ (u22 : Mem), κ u22 = some (r, w) → VJ p l e 3 0 0 69 s m args below meth c 0 0 Q A b_Sh_takeUnreachedExits 3 R_Sh (dC, dI) cA (wA ad cA) 57 [none, none, none] [] u22) → ∀ (n : Nat) (x4 x5 : Int32) (u6 : Mem), k_Sh_takeUnreachedExits_10 N κ n x4 x5 u6 = some (r, w) → VJ p l e 3 0 0 69 s m args below meth c 0 0 Q A b_Sh_takeUnreachedExits 3 R_Sh (dC, dI) cA (wA ad cA) 10 [some (.ref (ad 0)), some (.int x4), some (.int x5)] [] u6 := by
    intro κ hκ n
    induction n with
    | zero =>
      intro x4 x5 u6 h
      exact no_ns h
    | succ n ih =>
      intro x4 x5 u6 h
      unfold k_Sh_takeUnreachedExits_10 at h
      refine v_iload_n d_Sh_takeUnreachedExits_10 rfl rfl ?_
      refine v_if_lt 57 d_Sh_takeUnreachedExits_11 (by decide) rfl (fun c21 => ?_) (fun c21 => ?_)
      · replace h := (if_pos c21).symm.trans h
        refine v_drop 0 (lo' := [none, _, _]) rfl ?_
        refine v_drop 1 (lo' := [none, none, _]) rfl ?_
        refine v_drop 2 (lo' := [none, none, none]) rfl ?_
        exact hκ _ h
      · replace h := (if_neg c21).symm.trans h
        refine v_aload_n d_Sh_takeUnreachedExits_14 rfl rfl ?_
        refine vg_Sh_exits d_Sh_takeUnreachedExits_15 rfl ?_
        refine v_iload_n d_Sh_takeUnreachedExits_18 rfl rfl ?_
        obtain ⟨y7, u8, hc9, h⟩ := bd_inv h
        refine vc_Sh_Xt_nodeAt hc9 (Nat.le_of_ble_eq_true rfl) (Nat.le_of_ble_eq_true rfl) (Nat.le_of_ble_eq_true rfl) d_Sh_takeUnreachedExits_19 rfl ?_
        refine v_iload_n d_Sh_takeUnreachedExits_22 rfl rfl ?_
        refine v_icmp_ne 51 d_Sh_takeUnreachedExits_23 (by decide) rfl (fun c20 => ?_) (fun c20 => ?_)
        · replace h := (if_pos c20).symm.trans h
          refine v_aload_n d_Sh_takeUnreachedExits_26 rfl rfl ?_
          refine v_iload_n d_Sh_takeUnreachedExits_27 rfl rfl ?_
          refine v_aload_n d_Sh_takeUnreachedExits_28 rfl rfl ?_
          refine vg_Sh_exits d_Sh_takeUnreachedExits_29 rfl ?_
          refine v_iload_n d_Sh_takeUnreachedExits_32 rfl rfl ?_
          obtain ⟨y10, u11, hc12, h⟩ := bd_inv h
          refine vc_Sh_Xt_objectAt hc12 (Nat.le_of_ble_eq_true rfl) (Nat.le_of_ble_eq_true rfl) (Nat.le_of_ble_eq_true rfl) d_Sh_takeUnreachedExits_33 rfl ?_
          obtain ⟨y13, u14, hc15, h⟩ := bd_inv h
          refine vc_Sh_Sh_reachOfExit hc15 (Nat.le_of_ble_eq_true rfl) (Nat.le_of_ble_eq_true rfl) (Nat.le_of_ble_eq_true rfl) d_Sh_takeUnreachedExits_36 rfl ?_
          refine v_iconst (-1) d_Sh_takeUnreachedExits_39 (by decide) rfl ?_
          refine v_icmp_ne 51 d_Sh_takeUnreachedExits_40 (by decide) rfl (fun c19 => ?_) (fun c19 => ?_)
          · replace h := (if_pos c19).symm.trans h
            refine v_aload_n d_Sh_takeUnreachedExits_43 rfl rfl ?_
            refine vg_Sh_exits d_Sh_takeUnreachedExits_44 rfl ?_
            refine v_iload_n d_Sh_takeUnreachedExits_47 rfl rfl ?_
            obtain ⟨_y16, u17, hc18, h⟩ := bd_inv h
            refine vc_Sh_Xt_removeAt hc18 (Nat.le_of_ble_eq_true rfl) (Nat.le_of_ble_eq_true rfl) (Nat.le_of_ble_eq_true rfl) d_Sh_takeUnreachedExits_48 rfl ?_
            refine v_iinc (lo' := [_, _, _]) (-1) d_Sh_takeUnreachedExits_51 (by decide) rfl rfl (by decide) rfl ?_
            refine v_goto 10 d_Sh_takeUnreachedExits_54 (by decide) ?_
            exact ih _ _ _ h
          · replace h := (if_neg c19).symm.trans h
            refine v_iinc (lo' := [_, _, _]) (-1) d_Sh_takeUnreachedExits_51 (by decide) rfl rfl (by decide) rfl ?_
            refine v_goto 10 d_Sh_takeUnreachedExits_54 (by decide) ?_
            exact ih _ _ _ h
        · replace h := (if_neg c20).symm.trans h
          refine v_iinc (lo' := [_, _, _]) (-1) d_Sh_takeUnreachedExits_51 (by decide) rfl rfl (by decide) rfl ?_
          refine v_goto 10 d_Sh_takeUnreachedExits_54 (by decide) ?_
          exact ih _ _ _ h
  refine L10 _ (fun u22 h => ?_) N _ _ _ h
  obtain ⟨-, e2⟩ := rt_inv h
  exact ret _ _ _ e2 d_Sh_takeUnreachedExits_57
theorem vc_Sh_Sh_takeUnreachedExits {p : Program} {l : Launch} {e : Env} {fr rc rs rl : Nat} {s : State} {m : MethodId} {args : Array Value} {below : List Frame} {meth : Method} {c : Code} {cells slots : Nat} {Q : State → Prop} {A : Nat → Prop} {cc : ByteArray} {nL : Nat} {dC : Nat → ClassId} {dI : Nat → Nat → Nat} {cA : ClassId} {ad : Nat → Nat} {pc q : Nat} {lo : List (Option Value)} {rest : List Value} {u w : Mem} {r : Int32} {N : Nat} {b0 : Int32} (h : f_Sh_takeUnreachedExits N b0 u = some (r, w)) (hfr : 3 + 1 ≤ fr) (hrl : 8 + (3 + 11) + 69 ≤ rl) (hrm : (rest.map fun v => v.category).sum ≤ 8) (hd : decode cc pc = .ok (.invokevirtual 97, 3)) (hq : pc + 3 = q) (k : VJ p l e fr rc rs rl s m args below meth c cells slots Q A cc nL R_Sh (dC, dI) cA (wA ad cA) q lo rest w) : VJ p l e fr rc rs rl s m args below meth c cells slots Q A cc nL R_Sh (dC, dI) cA (wA ad cA) pc lo (.int b0 :: .ref (ad 0) :: rest) u :=
  v_callVV (As := [.int b0]) (rest := rest) (fun sz => c_Sh_takeUnreachedExits l dC dI ad cA sz N b0 u r w h) tw_250 tw_252 tw_9 0 (wA_0 ad cA u) rfl rfl tw_253 tw_24 1 rfl (by decide +kernel) hfr hrl rfl hrm hd hq (fun w1 hE => by subst hE; exact k)
theorem d_Xt_stampAt_0 : decode b_Xt_stampAt 0 = .ok (.aload_n 0, 1) := by decide +kernel
theorem d_Xt_stampAt_1 : decode b_Xt_stampAt 1 = .ok (.getfield 18, 3) := by decide +kernel
theorem d_Xt_stampAt_4 : decode b_Xt_stampAt 4 = .ok (.iload_n 1, 1) := by decide +kernel
theorem d_Xt_stampAt_5 : decode b_Xt_stampAt 5 = .ok (.iaload, 1) := by decide +kernel
theorem d_Xt_stampAt_6 : decode b_Xt_stampAt 6 = .ok (.ireturn, 1) := by decide +kernel
set_option maxHeartbeats 4000000 in
set_option maxRecDepth 100000 in
theorem c_Xt_stampAt (l : Launch) (dC : Nat → ClassId) (dI : Nat → Nat → Nat) (ad : Nat → Nat) (cA : ClassId) (sz : Nat) (N : Nat) (a1 : Int32) (u : Mem) (r : Int32) (w : Mem) (h : f_Xt_stampAt N a1 u = some (r, w)) : CtI l y_Xt_stampAt (Cond.code y_Xt_stampAt b_Xt_stampAt 2 (some .int) :: lw_gd) 0 0 (dC, dI) cA [.ref (ad 6), .int a1] (wA ad cA) u sz (fun v w1 => v = r ∧ w1 = w) := by
  refine v_metI (own := R_Xt) [some (.ref (ad 6)), some (.int a1)] rfl (by decide) (Nat.le_of_ble_eq_true rfl) rfl rfl (fun v u h => rfl) ?_
  intro p e s m args below meth c A Q ret
  unfold f_Xt_stampAt at h
  refine v_aload_n d_Xt_stampAt_0 rfl rfl ?_
  refine vg_Xt_stamps d_Xt_stampAt_1 rfl ?_
  refine v_iload_n d_Xt_stampAt_4 rfl rfl ?_
  obtain ⟨g1, h⟩ := gd_inv h
  refine v_ald 9 (wA_9 ad cA _) d_Xt_stampAt_5 g1 rfl ?_
  obtain ⟨e1, e2⟩ := rt_inv h
  exact ret _ _ _ _ ⟨e1, e2⟩ d_Xt_stampAt_6
theorem vc_Sh_Xt_stampAt {p : Program} {l : Launch} {e : Env} {fr rc rs rl : Nat} {s : State} {m : MethodId} {args : Array Value} {below : List Frame} {meth : Method} {c : Code} {cells slots : Nat} {Q : State → Prop} {A : Nat → Prop} {cc : ByteArray} {nL : Nat} {dC : Nat → ClassId} {dI : Nat → Nat → Nat} {cA : ClassId} {ad : Nat → Nat} {pc q : Nat} {lo : List (Option Value)} {rest : List Value} {u w : Mem} {r : Int32} {N : Nat} {b0 : Int32} (h : f_Xt_stampAt N b0 u = some (r, w)) (hfr : 0 + 1 ≤ fr) (hrl : 8 + (2 + 11) + 0 ≤ rl) (hrm : (rest.map fun v => v.category).sum ≤ 8) (hd : decode cc pc = .ok (.invokevirtual 142, 3)) (hq : pc + 3 = q) (k : VJ p l e fr rc rs rl s m args below meth c cells slots Q A cc nL R_Sh (dC, dI) cA (wA ad cA) q lo (.int r :: rest) w) : VJ p l e fr rc rs rl s m args below meth c cells slots Q A cc nL R_Sh (dC, dI) cA (wA ad cA) pc lo (.int b0 :: .ref (ad 6) :: rest) u :=
  v_callVI (As := [.int b0]) (rest := rest) (fun sz => c_Xt_stampAt l dC dI ad cA sz N b0 u r w h) tw_287 tw_288 tw_289 6 (wA_6 ad cA u) rfl rfl tw_290 tw_26 1 rfl (by decide +kernel) hfr hrl rfl hrm hd hq (fun v w1 hE => by obtain ⟨rfl, rfl⟩ := hE; exact k)
theorem d_Xt_setStamp_0 : decode b_Xt_setStamp 0 = .ok (.aload_n 0, 1) := by decide +kernel
theorem d_Xt_setStamp_1 : decode b_Xt_setStamp 1 = .ok (.getfield 18, 3) := by decide +kernel
theorem d_Xt_setStamp_4 : decode b_Xt_setStamp 4 = .ok (.iload_n 1, 1) := by decide +kernel
theorem d_Xt_setStamp_5 : decode b_Xt_setStamp 5 = .ok (.iload_n 2, 1) := by decide +kernel
theorem d_Xt_setStamp_6 : decode b_Xt_setStamp 6 = .ok (.iastore, 1) := by decide +kernel
theorem d_Xt_setStamp_7 : decode b_Xt_setStamp 7 = .ok (.return_, 1) := by decide +kernel
set_option maxHeartbeats 4000000 in
set_option maxRecDepth 100000 in
theorem c_Xt_setStamp (l : Launch) (dC : Nat → ClassId) (dI : Nat → Nat → Nat) (ad : Nat → Nat) (cA : ClassId) (sz : Nat) (N : Nat) (a1 a2 : Int32) (u : Mem) (r : Int32) (w : Mem) (h : f_Xt_setStamp N a1 a2 u = some (r, w)) : CtV l y_Xt_setStamp (Cond.code y_Xt_setStamp b_Xt_setStamp 3 none :: lw_gd) 0 0 (dC, dI) cA [.ref (ad 6), .int a1, .int a2] (wA ad cA) u sz (fun w1 => w1 = w) := by
  refine v_metV (own := R_Xt) [some (.ref (ad 6)), some (.int a1), some (.int a2)] rfl (by decide) (Nat.le_of_ble_eq_true rfl) rfl rfl ?_
  intro p e s m args below meth c A Q ret
  unfold f_Xt_setStamp at h
  refine v_aload_n d_Xt_setStamp_0 rfl rfl ?_
  refine vg_Xt_stamps d_Xt_setStamp_1 rfl ?_
  refine v_iload_n d_Xt_setStamp_4 rfl rfl ?_
  refine v_iload_n d_Xt_setStamp_5 rfl rfl ?_
  obtain ⟨g1, h⟩ := gd_inv h
  obtain ⟨u2, eu2, h⟩ := jn_inv h
  refine v_ast 9 (wA_9 ad cA _) (ws_9 ad cA _ _ _) eu2 d_Xt_setStamp_6 g1 rfl ?_
  obtain ⟨-, e2⟩ := rt_inv h
  exact ret _ _ _ e2 d_Xt_setStamp_7
theorem vc_Sh_Xt_setStamp {p : Program} {l : Launch} {e : Env} {fr rc rs rl : Nat} {s : State} {m : MethodId} {args : Array Value} {below : List Frame} {meth : Method} {c : Code} {cells slots : Nat} {Q : State → Prop} {A : Nat → Prop} {cc : ByteArray} {nL : Nat} {dC : Nat → ClassId} {dI : Nat → Nat → Nat} {cA : ClassId} {ad : Nat → Nat} {pc q : Nat} {lo : List (Option Value)} {rest : List Value} {u w : Mem} {r : Int32} {N : Nat} {b0 b1 : Int32} (h : f_Xt_setStamp N b0 b1 u = some (r, w)) (hfr : 0 + 1 ≤ fr) (hrl : 8 + (3 + 11) + 0 ≤ rl) (hrm : (rest.map fun v => v.category).sum ≤ 8) (hd : decode cc pc = .ok (.invokevirtual 189, 3)) (hq : pc + 3 = q) (k : VJ p l e fr rc rs rl s m args below meth c cells slots Q A cc nL R_Sh (dC, dI) cA (wA ad cA) q lo rest w) : VJ p l e fr rc rs rl s m args below meth c cells slots Q A cc nL R_Sh (dC, dI) cA (wA ad cA) pc lo (.int b1 :: .int b0 :: .ref (ad 6) :: rest) u :=
  v_callVV (As := [.int b0, .int b1]) (rest := rest) (fun sz => c_Xt_setStamp l dC dI ad cA sz N b0 b1 u r w h) tw_291 tw_292 tw_293 6 (wA_6 ad cA u) rfl rfl tw_294 tw_26 2 rfl (by decide +kernel) hfr hrl rfl hrm hd hq (fun w1 hE => by subst hE; exact k)
theorem d_Qu_send_0 : decode b_Qu_send 0 = .ok (.aload_n 0, 1) := by decide +kernel
theorem d_Qu_send_1 : decode b_Qu_send 1 = .ok (.getfield 15, 3) := by decide +kernel
theorem d_Qu_send_4 : decode b_Qu_send 4 = .ok (.bipush 40, 2) := by decide +kernel
theorem d_Qu_send_6 : decode b_Qu_send 6 = .ok (.if_icmp .ge 70, 3) := by decide +kernel
theorem d_Qu_send_9 : decode b_Qu_send 9 = .ok (.aload_n 0, 1) := by decide +kernel
theorem d_Qu_send_10 : decode b_Qu_send 10 = .ok (.getfield 11, 3) := by decide +kernel
theorem d_Qu_send_13 : decode b_Qu_send 13 = .ok (.aload_n 0, 1) := by decide +kernel
theorem d_Qu_send_14 : decode b_Qu_send 14 = .ok (.getfield 15, 3) := by decide +kernel
theorem d_Qu_send_17 : decode b_Qu_send 17 = .ok (.iconst 4, 1) := by decide +kernel
theorem d_Qu_send_18 : decode b_Qu_send 18 = .ok (.imul, 1) := by decide +kernel
theorem d_Qu_send_19 : decode b_Qu_send 19 = .ok (.iconst 0, 1) := by decide +kernel
theorem d_Qu_send_20 : decode b_Qu_send 20 = .ok (.iadd, 1) := by decide +kernel
theorem d_Qu_send_21 : decode b_Qu_send 21 = .ok (.iload_n 1, 1) := by decide +kernel
theorem d_Qu_send_22 : decode b_Qu_send 22 = .ok (.iastore, 1) := by decide +kernel
theorem d_Qu_send_23 : decode b_Qu_send 23 = .ok (.aload_n 0, 1) := by decide +kernel
theorem d_Qu_send_24 : decode b_Qu_send 24 = .ok (.getfield 11, 3) := by decide +kernel
theorem d_Qu_send_27 : decode b_Qu_send 27 = .ok (.aload_n 0, 1) := by decide +kernel
theorem d_Qu_send_28 : decode b_Qu_send 28 = .ok (.getfield 15, 3) := by decide +kernel
theorem d_Qu_send_31 : decode b_Qu_send 31 = .ok (.iconst 4, 1) := by decide +kernel
theorem d_Qu_send_32 : decode b_Qu_send 32 = .ok (.imul, 1) := by decide +kernel
theorem d_Qu_send_33 : decode b_Qu_send 33 = .ok (.iconst 1, 1) := by decide +kernel
theorem d_Qu_send_34 : decode b_Qu_send 34 = .ok (.iadd, 1) := by decide +kernel
theorem d_Qu_send_35 : decode b_Qu_send 35 = .ok (.iload_n 2, 1) := by decide +kernel
theorem d_Qu_send_36 : decode b_Qu_send 36 = .ok (.iastore, 1) := by decide +kernel
theorem d_Qu_send_37 : decode b_Qu_send 37 = .ok (.aload_n 0, 1) := by decide +kernel
theorem d_Qu_send_38 : decode b_Qu_send 38 = .ok (.getfield 11, 3) := by decide +kernel
theorem d_Qu_send_41 : decode b_Qu_send 41 = .ok (.aload_n 0, 1) := by decide +kernel
theorem d_Qu_send_42 : decode b_Qu_send 42 = .ok (.getfield 15, 3) := by decide +kernel
theorem d_Qu_send_45 : decode b_Qu_send 45 = .ok (.iconst 4, 1) := by decide +kernel
theorem d_Qu_send_46 : decode b_Qu_send 46 = .ok (.imul, 1) := by decide +kernel
theorem d_Qu_send_47 : decode b_Qu_send 47 = .ok (.iconst 2, 1) := by decide +kernel
theorem d_Qu_send_48 : decode b_Qu_send 48 = .ok (.iadd, 1) := by decide +kernel
theorem d_Qu_send_49 : decode b_Qu_send 49 = .ok (.iload_n 3, 1) := by decide +kernel
theorem d_Qu_send_50 : decode b_Qu_send 50 = .ok (.iastore, 1) := by decide +kernel
theorem d_Qu_send_51 : decode b_Qu_send 51 = .ok (.aload_n 0, 1) := by decide +kernel
theorem d_Qu_send_52 : decode b_Qu_send 52 = .ok (.getfield 11, 3) := by decide +kernel
theorem d_Qu_send_55 : decode b_Qu_send 55 = .ok (.aload_n 0, 1) := by decide +kernel
theorem d_Qu_send_56 : decode b_Qu_send 56 = .ok (.getfield 15, 3) := by decide +kernel
theorem d_Qu_send_59 : decode b_Qu_send 59 = .ok (.iconst 4, 1) := by decide +kernel
theorem d_Qu_send_60 : decode b_Qu_send 60 = .ok (.imul, 1) := by decide +kernel
theorem d_Qu_send_61 : decode b_Qu_send 61 = .ok (.iconst 3, 1) := by decide +kernel
theorem d_Qu_send_62 : decode b_Qu_send 62 = .ok (.iadd, 1) := by decide +kernel
theorem d_Qu_send_63 : decode b_Qu_send 63 = .ok (.iload 4, 2) := by decide +kernel
theorem d_Qu_send_65 : decode b_Qu_send 65 = .ok (.iastore, 1) := by decide +kernel
theorem d_Qu_send_66 : decode b_Qu_send 66 = .ok (.aload_n 0, 1) := by decide +kernel
theorem d_Qu_send_67 : decode b_Qu_send 67 = .ok (.dup, 1) := by decide +kernel
theorem d_Qu_send_68 : decode b_Qu_send 68 = .ok (.getfield 15, 3) := by decide +kernel
theorem d_Qu_send_71 : decode b_Qu_send 71 = .ok (.iconst 1, 1) := by decide +kernel
theorem d_Qu_send_72 : decode b_Qu_send 72 = .ok (.iadd, 1) := by decide +kernel
theorem d_Qu_send_73 : decode b_Qu_send 73 = .ok (.putfield 15, 3) := by decide +kernel
theorem d_Qu_send_76 : decode b_Qu_send 76 = .ok (.return_, 1) := by decide +kernel
set_option maxHeartbeats 4000000 in
set_option maxRecDepth 100000 in
theorem c_Qu_send (l : Launch) (dC : Nat → ClassId) (dI : Nat → Nat → Nat) (ad : Nat → Nat) (cA : ClassId) (sz : Nat) (N : Nat) (a1 a2 a3 a4 : Int32) (u : Mem) (r : Int32) (w : Mem) (h : f_Qu_send N a1 a2 a3 a4 u = some (r, w)) : CtV l y_Qu_send (Cond.code y_Qu_send b_Qu_send 5 none :: lw_gd) 0 0 (dC, dI) cA [.ref (ad 10), .int a1, .int a2, .int a3, .int a4] (wA ad cA) u sz (fun w1 => w1 = w) := by
  refine v_metV (own := R_Qu) [some (.ref (ad 10)), some (.int a1), some (.int a2), some (.int a3), some (.int a4)] rfl (by decide) (Nat.le_of_ble_eq_true rfl) rfl rfl ?_
  intro p e s m args below meth c A Q ret
  unfold f_Qu_send at h
  refine v_aload_n d_Qu_send_0 rfl rfl ?_
  refine vg_Qu_size d_Qu_send_1 rfl ?_
  refine v_bipush 40 d_Qu_send_4 (by decide) rfl ?_
  refine v_icmp_ge 76 d_Qu_send_6 (by decide) rfl (fun c10 => ?_) (fun c10 => ?_)
  · replace h := (if_pos c10).symm.trans h
    obtain ⟨-, e2⟩ := rt_inv h
    exact ret _ _ _ e2 d_Qu_send_76
  · replace h := (if_neg c10).symm.trans h
    refine v_aload_n d_Qu_send_9 rfl rfl ?_
    refine vg_Qu_parts d_Qu_send_10 rfl ?_
    refine v_aload_n d_Qu_send_13 rfl rfl ?_
    refine vg_Qu_size d_Qu_send_14 rfl ?_
    refine v_iconst 4 d_Qu_send_17 (by decide) rfl ?_
    refine v_imul d_Qu_send_18 rfl ?_
    refine v_iconst 0 d_Qu_send_19 (by decide) rfl ?_
    refine v_iadd d_Qu_send_20 rfl ?_
    refine v_iload_n d_Qu_send_21 rfl rfl ?_
    obtain ⟨g1, h⟩ := gd_inv h
    obtain ⟨u2, eu2, h⟩ := jn_inv h
    refine v_ast 11 (wA_11 ad cA _) (ws_11 ad cA _ _ _) eu2 d_Qu_send_22 g1 rfl ?_
    refine v_aload_n d_Qu_send_23 rfl rfl ?_
    refine vg_Qu_parts d_Qu_send_24 rfl ?_
    refine v_aload_n d_Qu_send_27 rfl rfl ?_
    refine vg_Qu_size d_Qu_send_28 rfl ?_
    refine v_iconst 4 d_Qu_send_31 (by decide) rfl ?_
    refine v_imul d_Qu_send_32 rfl ?_
    refine v_iconst 1 d_Qu_send_33 (by decide) rfl ?_
    refine v_iadd d_Qu_send_34 rfl ?_
    refine v_iload_n d_Qu_send_35 rfl rfl ?_
    obtain ⟨g3, h⟩ := gd_inv h
    obtain ⟨u4, eu4, h⟩ := jn_inv h
    refine v_ast 11 (wA_11 ad cA _) (ws_11 ad cA _ _ _) eu4 d_Qu_send_36 g3 rfl ?_
    refine v_aload_n d_Qu_send_37 rfl rfl ?_
    refine vg_Qu_parts d_Qu_send_38 rfl ?_
    refine v_aload_n d_Qu_send_41 rfl rfl ?_
    refine vg_Qu_size d_Qu_send_42 rfl ?_
    refine v_iconst 4 d_Qu_send_45 (by decide) rfl ?_
    refine v_imul d_Qu_send_46 rfl ?_
    refine v_iconst 2 d_Qu_send_47 (by decide) rfl ?_
    refine v_iadd d_Qu_send_48 rfl ?_
    refine v_iload_n d_Qu_send_49 rfl rfl ?_
    obtain ⟨g5, h⟩ := gd_inv h
    obtain ⟨u6, eu6, h⟩ := jn_inv h
    refine v_ast 11 (wA_11 ad cA _) (ws_11 ad cA _ _ _) eu6 d_Qu_send_50 g5 rfl ?_
    refine v_aload_n d_Qu_send_51 rfl rfl ?_
    refine vg_Qu_parts d_Qu_send_52 rfl ?_
    refine v_aload_n d_Qu_send_55 rfl rfl ?_
    refine vg_Qu_size d_Qu_send_56 rfl ?_
    refine v_iconst 4 d_Qu_send_59 (by decide) rfl ?_
    refine v_imul d_Qu_send_60 rfl ?_
    refine v_iconst 3 d_Qu_send_61 (by decide) rfl ?_
    refine v_iadd d_Qu_send_62 rfl ?_
    refine v_iload d_Qu_send_63 rfl rfl ?_
    obtain ⟨g7, h⟩ := gd_inv h
    obtain ⟨u8, eu8, h⟩ := jn_inv h
    refine v_ast 11 (wA_11 ad cA _) (ws_11 ad cA _ _ _) eu8 d_Qu_send_65 g7 rfl ?_
    refine v_aload_n d_Qu_send_66 rfl rfl ?_
    refine v_dup d_Qu_send_67 rfl rfl ?_
    refine vg_Qu_size d_Qu_send_68 rfl ?_
    refine v_iconst 1 d_Qu_send_71 (by decide) rfl ?_
    refine v_iadd d_Qu_send_72 rfl ?_
    obtain ⟨u9, eu9, h⟩ := jn_inv h
    refine vp_Qu_size eu9 d_Qu_send_73 rfl ?_
    obtain ⟨-, e2⟩ := rt_inv h
    exact ret _ _ _ e2 d_Qu_send_76
theorem vc_Sh_Qu_send {p : Program} {l : Launch} {e : Env} {fr rc rs rl : Nat} {s : State} {m : MethodId} {args : Array Value} {below : List Frame} {meth : Method} {c : Code} {cells slots : Nat} {Q : State → Prop} {A : Nat → Prop} {cc : ByteArray} {nL : Nat} {dC : Nat → ClassId} {dI : Nat → Nat → Nat} {cA : ClassId} {ad : Nat → Nat} {pc q : Nat} {lo : List (Option Value)} {rest : List Value} {u w : Mem} {r : Int32} {N : Nat} {b0 b1 b2 b3 : Int32} (h : f_Qu_send N b0 b1 b2 b3 u = some (r, w)) (hfr : 0 + 1 ≤ fr) (hrl : 8 + (5 + 11) + 0 ≤ rl) (hrm : (rest.map fun v => v.category).sum ≤ 8) (hd : decode cc pc = .ok (.invokevirtual 192, 3)) (hq : pc + 3 = q) (k : VJ p l e fr rc rs rl s m args below meth c cells slots Q A cc nL R_Sh (dC, dI) cA (wA ad cA) q lo rest w) : VJ p l e fr rc rs rl s m args below meth c cells slots Q A cc nL R_Sh (dC, dI) cA (wA ad cA) pc lo (.int b3 :: .int b2 :: .int b1 :: .int b0 :: .ref (ad 10) :: rest) u :=
  v_callVV (As := [.int b0, .int b1, .int b2, .int b3]) (rest := rest) (fun sz => c_Qu_send l dC dI ad cA sz N b0 b1 b2 b3 u r w h) tw_295 tw_296 tw_297 10 (wA_10 ad cA u) rfl rfl tw_298 tw_27 4 rfl (by decide +kernel) hfr hrl rfl hrm hd hq (fun w1 hE => by subst hE; exact k)
theorem d_Sh_stampReachedExit_0 : decode b_Sh_stampReachedExit 0 = .ok (.aload_n 0, 1) := by decide +kernel
theorem d_Sh_stampReachedExit_1 : decode b_Sh_stampReachedExit 1 = .ok (.getfield 23, 3) := by decide +kernel
theorem d_Sh_stampReachedExit_4 : decode b_Sh_stampReachedExit 4 = .ok (.iload_n 1, 1) := by decide +kernel
theorem d_Sh_stampReachedExit_5 : decode b_Sh_stampReachedExit 5 = .ok (.invokevirtual 176, 3) := by decide +kernel
theorem d_Sh_stampReachedExit_8 : decode b_Sh_stampReachedExit 8 = .ok (.istore_n 2, 1) := by decide +kernel
theorem d_Sh_stampReachedExit_9 : decode b_Sh_stampReachedExit 9 = .ok (.aload_n 0, 1) := by decide +kernel
theorem d_Sh_stampReachedExit_10 : decode b_Sh_stampReachedExit 10 = .ok (.getfield 23, 3) := by decide +kernel
theorem d_Sh_stampReachedExit_13 : decode b_Sh_stampReachedExit 13 = .ok (.iload_n 1, 1) := by decide +kernel
theorem d_Sh_stampReachedExit_14 : decode b_Sh_stampReachedExit 14 = .ok (.invokevirtual 179, 3) := by decide +kernel
theorem d_Sh_stampReachedExit_17 : decode b_Sh_stampReachedExit 17 = .ok (.istore_n 3, 1) := by decide +kernel
theorem d_Sh_stampReachedExit_18 : decode b_Sh_stampReachedExit 18 = .ok (.aload_n 0, 1) := by decide +kernel
theorem d_Sh_stampReachedExit_19 : decode b_Sh_stampReachedExit 19 = .ok (.getfield 23, 3) := by decide +kernel
theorem d_Sh_stampReachedExit_22 : decode b_Sh_stampReachedExit 22 = .ok (.iload_n 1, 1) := by decide +kernel
theorem d_Sh_stampReachedExit_23 : decode b_Sh_stampReachedExit 23 = .ok (.invokevirtual 142, 3) := by decide +kernel
theorem d_Sh_stampReachedExit_26 : decode b_Sh_stampReachedExit 26 = .ok (.istore 4, 2) := by decide +kernel
theorem d_Sh_stampReachedExit_28 : decode b_Sh_stampReachedExit 28 = .ok (.aload_n 0, 1) := by decide +kernel
theorem d_Sh_stampReachedExit_29 : decode b_Sh_stampReachedExit 29 = .ok (.iload_n 2, 1) := by decide +kernel
theorem d_Sh_stampReachedExit_30 : decode b_Sh_stampReachedExit 30 = .ok (.iload_n 3, 1) := by decide +kernel
theorem d_Sh_stampReachedExit_31 : decode b_Sh_stampReachedExit 31 = .ok (.invokevirtual 182, 3) := by decide +kernel
theorem d_Sh_stampReachedExit_34 : decode b_Sh_stampReachedExit 34 = .ok (.istore 5, 2) := by decide +kernel
theorem d_Sh_stampReachedExit_36 : decode b_Sh_stampReachedExit 36 = .ok (.iload 5, 2) := by decide +kernel
theorem d_Sh_stampReachedExit_38 : decode b_Sh_stampReachedExit 38 = .ok (.iload 4, 2) := by decide +kernel
theorem d_Sh_stampReachedExit_40 : decode b_Sh_stampReachedExit 40 = .ok (.if_icmp .le 26, 3) := by decide +kernel
theorem d_Sh_stampReachedExit_43 : decode b_Sh_stampReachedExit 43 = .ok (.aload_n 0, 1) := by decide +kernel
theorem d_Sh_stampReachedExit_44 : decode b_Sh_stampReachedExit 44 = .ok (.getfield 23, 3) := by decide +kernel
theorem d_Sh_stampReachedExit_47 : decode b_Sh_stampReachedExit 47 = .ok (.iload_n 1, 1) := by decide +kernel
theorem d_Sh_stampReachedExit_48 : decode b_Sh_stampReachedExit 48 = .ok (.iload 5, 2) := by decide +kernel
theorem d_Sh_stampReachedExit_50 : decode b_Sh_stampReachedExit 50 = .ok (.invokevirtual 189, 3) := by decide +kernel
theorem d_Sh_stampReachedExit_53 : decode b_Sh_stampReachedExit 53 = .ok (.aload_n 0, 1) := by decide +kernel
theorem d_Sh_stampReachedExit_54 : decode b_Sh_stampReachedExit 54 = .ok (.getfield 30, 3) := by decide +kernel
theorem d_Sh_stampReachedExit_57 : decode b_Sh_stampReachedExit 57 = .ok (.iload_n 2, 1) := by decide +kernel
theorem d_Sh_stampReachedExit_58 : decode b_Sh_stampReachedExit 58 = .ok (.iload_n 3, 1) := by decide +kernel
theorem d_Sh_stampReachedExit_59 : decode b_Sh_stampReachedExit 59 = .ok (.iload 5, 2) := by decide +kernel
theorem d_Sh_stampReachedExit_61 : decode b_Sh_stampReachedExit 61 = .ok (.iload 4, 2) := by decide +kernel
theorem d_Sh_stampReachedExit_63 : decode b_Sh_stampReachedExit 63 = .ok (.invokevirtual 192, 3) := by decide +kernel
theorem d_Sh_stampReachedExit_66 : decode b_Sh_stampReachedExit 66 = .ok (.return_, 1) := by decide +kernel
set_option maxHeartbeats 4000000 in
set_option maxRecDepth 100000 in
theorem c_Sh_stampReachedExit (l : Launch) (dC : Nat → ClassId) (dI : Nat → Nat → Nat) (ad : Nat → Nat) (cA : ClassId) (sz : Nat) (N : Nat) (a1 : Int32) (u : Mem) (r : Int32) (w : Mem) (h : f_Sh_stampReachedExit N a1 u = some (r, w)) : CtV l y_Sh_stampReachedExit (Cond.code y_Sh_stampReachedExit b_Sh_stampReachedExit 6 none :: lw_gd) 3 69 (dC, dI) cA [.ref (ad 0), .int a1] (wA ad cA) u sz (fun w1 => w1 = w) := by
  refine v_metV (own := R_Sh) [some (.ref (ad 0)), some (.int a1), none, none, none, none] rfl (by decide) (Nat.le_of_ble_eq_true rfl) rfl rfl ?_
  intro p e s m args below meth c A Q ret
  unfold f_Sh_stampReachedExit at h
  refine v_aload_n d_Sh_stampReachedExit_0 rfl rfl ?_
  refine vg_Sh_exits d_Sh_stampReachedExit_1 rfl ?_
  refine v_iload_n d_Sh_stampReachedExit_4 rfl rfl ?_
  obtain ⟨y1, u2, hc3, h⟩ := bd_inv h
  refine vc_Sh_Xt_nodeAt hc3 (Nat.le_of_ble_eq_true rfl) (Nat.le_of_ble_eq_true rfl) (Nat.le_of_ble_eq_true rfl) d_Sh_stampReachedExit_5 rfl ?_
  refine v_istore_n (lo' := [_, _, _, none, none, none]) d_Sh_stampReachedExit_8 rfl (by decide) rfl ?_
  refine v_aload_n d_Sh_stampReachedExit_9 rfl rfl ?_
  refine vg_Sh_exits d_Sh_stampReachedExit_10 rfl ?_
  refine v_iload_n d_Sh_stampReachedExit_13 rfl rfl ?_
  obtain ⟨y4, u5, hc6, h⟩ := bd_inv h
  refine vc_Sh_Xt_objectAt hc6 (Nat.le_of_ble_eq_true rfl) (Nat.le_of_ble_eq_true rfl) (Nat.le_of_ble_eq_true rfl) d_Sh_stampReachedExit_14 rfl ?_
  refine v_istore_n (lo' := [_, _, _, _, none, none]) d_Sh_stampReachedExit_17 rfl (by decide) rfl ?_
  refine v_aload_n d_Sh_stampReachedExit_18 rfl rfl ?_
  refine vg_Sh_exits d_Sh_stampReachedExit_19 rfl ?_
  refine v_iload_n d_Sh_stampReachedExit_22 rfl rfl ?_
  obtain ⟨y7, u8, hc9, h⟩ := bd_inv h
  refine vc_Sh_Xt_stampAt hc9 (Nat.le_of_ble_eq_true rfl) (Nat.le_of_ble_eq_true rfl) (Nat.le_of_ble_eq_true rfl) d_Sh_stampReachedExit_23 rfl ?_
  refine v_istore (lo' := [_, _, _, _, _, none]) d_Sh_stampReachedExit_26 rfl (by decide) rfl ?_
  refine v_aload_n d_Sh_stampReachedExit_28 rfl rfl ?_
  refine v_iload_n d_Sh_stampReachedExit_29 rfl rfl ?_
  refine v_iload_n d_Sh_stampReachedExit_30 rfl rfl ?_
  obtain ⟨y10, u11, hc12, h⟩ := bd_inv h
  refine vc_Sh_Sh_reachOfExit hc12 (Nat.le_of_ble_eq_true rfl) (Nat.le_of_ble_eq_true rfl) (Nat.le_of_ble_eq_true rfl) d_Sh_stampReachedExit_31 rfl ?_
  refine v_istore (lo' := [_, _, _, _, _, _]) d_Sh_stampReachedExit_34 rfl (by decide) rfl ?_
  refine v_iload d_Sh_stampReachedExit_36 rfl rfl ?_
  refine v_iload d_Sh_stampReachedExit_38 rfl rfl ?_
  refine v_icmp_le 66 d_Sh_stampReachedExit_40 (by decide) rfl (fun c19 => ?_) (fun c19 => ?_)
  · replace h := (if_pos c19).symm.trans h
    obtain ⟨-, e2⟩ := rt_inv h
    exact ret _ _ _ e2 d_Sh_stampReachedExit_66
  · replace h := (if_neg c19).symm.trans h
    refine v_aload_n d_Sh_stampReachedExit_43 rfl rfl ?_
    refine vg_Sh_exits d_Sh_stampReachedExit_44 rfl ?_
    refine v_iload_n d_Sh_stampReachedExit_47 rfl rfl ?_
    refine v_iload d_Sh_stampReachedExit_48 rfl rfl ?_
    obtain ⟨_y13, u14, hc15, h⟩ := bd_inv h
    refine vc_Sh_Xt_setStamp hc15 (Nat.le_of_ble_eq_true rfl) (Nat.le_of_ble_eq_true rfl) (Nat.le_of_ble_eq_true rfl) d_Sh_stampReachedExit_50 rfl ?_
    refine v_aload_n d_Sh_stampReachedExit_53 rfl rfl ?_
    refine vg_Sh_queue d_Sh_stampReachedExit_54 rfl ?_
    refine v_iload_n d_Sh_stampReachedExit_57 rfl rfl ?_
    refine v_iload_n d_Sh_stampReachedExit_58 rfl rfl ?_
    refine v_iload d_Sh_stampReachedExit_59 rfl rfl ?_
    refine v_iload d_Sh_stampReachedExit_61 rfl rfl ?_
    obtain ⟨_y16, u17, hc18, h⟩ := bd_inv h
    refine vc_Sh_Qu_send hc18 (Nat.le_of_ble_eq_true rfl) (Nat.le_of_ble_eq_true rfl) (Nat.le_of_ble_eq_true rfl) d_Sh_stampReachedExit_63 rfl ?_
    obtain ⟨-, e2⟩ := rt_inv h
    exact ret _ _ _ e2 d_Sh_stampReachedExit_66
theorem vc_Sh_Sh_stampReachedExit {p : Program} {l : Launch} {e : Env} {fr rc rs rl : Nat} {s : State} {m : MethodId} {args : Array Value} {below : List Frame} {meth : Method} {c : Code} {cells slots : Nat} {Q : State → Prop} {A : Nat → Prop} {cc : ByteArray} {nL : Nat} {dC : Nat → ClassId} {dI : Nat → Nat → Nat} {cA : ClassId} {ad : Nat → Nat} {pc q : Nat} {lo : List (Option Value)} {rest : List Value} {u w : Mem} {r : Int32} {N : Nat} {b0 : Int32} (h : f_Sh_stampReachedExit N b0 u = some (r, w)) (hfr : 3 + 1 ≤ fr) (hrl : 8 + (6 + 11) + 69 ≤ rl) (hrm : (rest.map fun v => v.category).sum ≤ 8) (hd : decode cc pc = .ok (.invokevirtual 186, 3)) (hq : pc + 3 = q) (k : VJ p l e fr rc rs rl s m args below meth c cells slots Q A cc nL R_Sh (dC, dI) cA (wA ad cA) q lo rest w) : VJ p l e fr rc rs rl s m args below meth c cells slots Q A cc nL R_Sh (dC, dI) cA (wA ad cA) pc lo (.int b0 :: .ref (ad 0) :: rest) u :=
  v_callVV (As := [.int b0]) (rest := rest) (fun sz => c_Sh_stampReachedExit l dC dI ad cA sz N b0 u r w h) tw_283 tw_285 tw_12 0 (wA_0 ad cA u) rfl rfl tw_286 tw_24 1 rfl (by decide +kernel) hfr hrl rfl hrm hd hq (fun w1 hE => by subst hE; exact k)
theorem d_Sh_stampReachedExits_0 : decode b_Sh_stampReachedExits 0 = .ok (.iconst 0, 1) := by decide +kernel
theorem d_Sh_stampReachedExits_1 : decode b_Sh_stampReachedExits 1 = .ok (.istore_n 2, 1) := by decide +kernel
theorem d_Sh_stampReachedExits_2 : decode b_Sh_stampReachedExits 2 = .ok (.iload_n 2, 1) := by decide +kernel
theorem d_Sh_stampReachedExits_3 : decode b_Sh_stampReachedExits 3 = .ok (.aload_n 0, 1) := by decide +kernel
theorem d_Sh_stampReachedExits_4 : decode b_Sh_stampReachedExits 4 = .ok (.getfield 23, 3) := by decide +kernel
theorem d_Sh_stampReachedExits_7 : decode b_Sh_stampReachedExits 7 = .ok (.invokevirtual 175, 3) := by decide +kernel
theorem d_Sh_stampReachedExits_10 : decode b_Sh_stampReachedExits 10 = .ok (.if_icmp .ge 26, 3) := by decide +kernel
theorem d_Sh_stampReachedExits_13 : decode b_Sh_stampReachedExits 13 = .ok (.aload_n 0, 1) := by decide +kernel
theorem d_Sh_stampReachedExits_14 : decode b_Sh_stampReachedExits 14 = .ok (.getfield 23, 3) := by decide +kernel
theorem d_Sh_stampReachedExits_17 : decode b_Sh_stampReachedExits 17 = .ok (.iload_n 2, 1) := by decide +kernel
theorem d_Sh_stampReachedExits_18 : decode b_Sh_stampReachedExits 18 = .ok (.invokevirtual 176, 3) := by decide +kernel
theorem d_Sh_stampReachedExits_21 : decode b_Sh_stampReachedExits 21 = .ok (.iload_n 1, 1) := by decide +kernel
theorem d_Sh_stampReachedExits_22 : decode b_Sh_stampReachedExits 22 = .ok (.if_icmp .ne 8, 3) := by decide +kernel
theorem d_Sh_stampReachedExits_25 : decode b_Sh_stampReachedExits 25 = .ok (.aload_n 0, 1) := by decide +kernel
theorem d_Sh_stampReachedExits_26 : decode b_Sh_stampReachedExits 26 = .ok (.iload_n 2, 1) := by decide +kernel
theorem d_Sh_stampReachedExits_27 : decode b_Sh_stampReachedExits 27 = .ok (.invokevirtual 186, 3) := by decide +kernel
theorem d_Sh_stampReachedExits_30 : decode b_Sh_stampReachedExits 30 = .ok (.iinc 2 1, 3) := by decide +kernel
theorem d_Sh_stampReachedExits_33 : decode b_Sh_stampReachedExits 33 = .ok (.goto (-31), 3) := by decide +kernel
theorem d_Sh_stampReachedExits_36 : decode b_Sh_stampReachedExits 36 = .ok (.return_, 1) := by decide +kernel
set_option maxHeartbeats 4000000 in
set_option maxRecDepth 100000 in
theorem c_Sh_stampReachedExits (l : Launch) (dC : Nat → ClassId) (dI : Nat → Nat → Nat) (ad : Nat → Nat) (cA : ClassId) (sz : Nat) (N : Nat) (a1 : Int32) (u : Mem) (r : Int32) (w : Mem) (h : f_Sh_stampReachedExits N a1 u = some (r, w)) : CtV l y_Sh_stampReachedExits (Cond.code y_Sh_stampReachedExits b_Sh_stampReachedExits 3 none :: lw_gd) 4 94 (dC, dI) cA [.ref (ad 0), .int a1] (wA ad cA) u sz (fun w1 => w1 = w) := by
  refine v_metV (own := R_Sh) [some (.ref (ad 0)), some (.int a1), none] rfl (by decide) (Nat.le_of_ble_eq_true rfl) rfl rfl ?_
  intro p e s m args below meth c A Q ret
  unfold f_Sh_stampReachedExits at h
  refine v_iconst 0 d_Sh_stampReachedExits_0 (by decide) rfl ?_
  refine v_istore_n (lo' := [_, _, _]) d_Sh_stampReachedExits_1 rfl (by decide) rfl ?_
  have L2 : ∀ (κ : Mem → Rs), (∀ (u15 : Mem), κ u15 = some (r, w) → VJ p l e 4 0 0 94 s m args below meth c 0 0 Q A b_Sh_stampReachedExits 3 R_Sh (dC, dI) cA (wA ad cA) 36 [none, none, none] [] u15) → ∀ (n : Nat) (x1 x2 : Int32) (u3 : Mem), k_Sh_stampReachedExits_2 N κ n x1 x2 u3 = some (r, w) → VJ p l e 4 0 0 94 s m args below meth c 0 0 Q A b_Sh_stampReachedExits 3 R_Sh (dC, dI) cA (wA ad cA) 2 [some (.ref (ad 0)), some (.int x1), some (.int x2)] [] u3 := by
    intro κ hκ n
    induction n with
    | zero =>
      intro x1 x2 u3 h
      exact no_ns h
    | succ n ih =>
      intro x1 x2 u3 h
      unfold k_Sh_stampReachedExits_2 at h
      refine v_iload_n d_Sh_stampReachedExits_2 rfl rfl ?_
      refine v_aload_n d_Sh_stampReachedExits_3 rfl rfl ?_
      refine vg_Sh_exits d_Sh_stampReachedExits_4 rfl ?_
      obtain ⟨y4, u5, hc6, h⟩ := bd_inv h
      refine vc_Sh_Xt_size hc6 (Nat.le_of_ble_eq_true rfl) (Nat.le_of_ble_eq_true rfl) (Nat.le_of_ble_eq_true rfl) d_Sh_stampReachedExits_7 rfl ?_
      refine v_icmp_ge 36 d_Sh_stampReachedExits_10 (by decide) rfl (fun c14 => ?_) (fun c14 => ?_)
      · replace h := (if_pos c14).symm.trans h
        refine v_drop 0 (lo' := [none, _, _]) rfl ?_
        refine v_drop 1 (lo' := [none, none, _]) rfl ?_
        refine v_drop 2 (lo' := [none, none, none]) rfl ?_
        exact hκ _ h
      · replace h := (if_neg c14).symm.trans h
        refine v_aload_n d_Sh_stampReachedExits_13 rfl rfl ?_
        refine vg_Sh_exits d_Sh_stampReachedExits_14 rfl ?_
        refine v_iload_n d_Sh_stampReachedExits_17 rfl rfl ?_
        obtain ⟨y7, u8, hc9, h⟩ := bd_inv h
        refine vc_Sh_Xt_nodeAt hc9 (Nat.le_of_ble_eq_true rfl) (Nat.le_of_ble_eq_true rfl) (Nat.le_of_ble_eq_true rfl) d_Sh_stampReachedExits_18 rfl ?_
        refine v_iload_n d_Sh_stampReachedExits_21 rfl rfl ?_
        refine v_icmp_ne 30 d_Sh_stampReachedExits_22 (by decide) rfl (fun c13 => ?_) (fun c13 => ?_)
        · replace h := (if_pos c13).symm.trans h
          refine v_aload_n d_Sh_stampReachedExits_25 rfl rfl ?_
          refine v_iload_n d_Sh_stampReachedExits_26 rfl rfl ?_
          obtain ⟨_y10, u11, hc12, h⟩ := bd_inv h
          refine vc_Sh_Sh_stampReachedExit hc12 (Nat.le_of_ble_eq_true rfl) (Nat.le_of_ble_eq_true rfl) (Nat.le_of_ble_eq_true rfl) d_Sh_stampReachedExits_27 rfl ?_
          refine v_iinc (lo' := [_, _, _]) 1 d_Sh_stampReachedExits_30 (by decide) rfl rfl (by decide) rfl ?_
          refine v_goto 2 d_Sh_stampReachedExits_33 (by decide) ?_
          exact ih _ _ _ h
        · replace h := (if_neg c13).symm.trans h
          refine v_iinc (lo' := [_, _, _]) 1 d_Sh_stampReachedExits_30 (by decide) rfl rfl (by decide) rfl ?_
          refine v_goto 2 d_Sh_stampReachedExits_33 (by decide) ?_
          exact ih _ _ _ h
  refine L2 _ (fun u15 h => ?_) N _ _ _ h
  obtain ⟨-, e2⟩ := rt_inv h
  exact ret _ _ _ e2 d_Sh_stampReachedExits_36
theorem vc_Sh_Sh_stampReachedExits {p : Program} {l : Launch} {e : Env} {fr rc rs rl : Nat} {s : State} {m : MethodId} {args : Array Value} {below : List Frame} {meth : Method} {c : Code} {cells slots : Nat} {Q : State → Prop} {A : Nat → Prop} {cc : ByteArray} {nL : Nat} {dC : Nat → ClassId} {dI : Nat → Nat → Nat} {cA : ClassId} {ad : Nat → Nat} {pc q : Nat} {lo : List (Option Value)} {rest : List Value} {u w : Mem} {r : Int32} {N : Nat} {b0 : Int32} (h : f_Sh_stampReachedExits N b0 u = some (r, w)) (hfr : 4 + 1 ≤ fr) (hrl : 8 + (3 + 11) + 94 ≤ rl) (hrm : (rest.map fun v => v.category).sum ≤ 8) (hd : decode cc pc = .ok (.invokevirtual 100, 3)) (hq : pc + 3 = q) (k : VJ p l e fr rc rs rl s m args below meth c cells slots Q A cc nL R_Sh (dC, dI) cA (wA ad cA) q lo rest w) : VJ p l e fr rc rs rl s m args below meth c cells slots Q A cc nL R_Sh (dC, dI) cA (wA ad cA) pc lo (.int b0 :: .ref (ad 0) :: rest) u :=
  v_callVV (As := [.int b0]) (rest := rest) (fun sz => c_Sh_stampReachedExits l dC dI ad cA sz N b0 u r w h) tw_279 tw_281 tw_11 0 (wA_0 ad cA u) rfl rfl tw_282 tw_24 1 rfl (by decide +kernel) hfr hrl rfl hrm hd hq (fun w1 hE => by subst hE; exact k)
theorem d_Hp_free_0 : decode b_Hp_free 0 = .ok (.aload_n 0, 1) := by decide +kernel
theorem d_Hp_free_1 : decode b_Hp_free 1 = .ok (.getfield 9, 3) := by decide +kernel
theorem d_Hp_free_4 : decode b_Hp_free 4 = .ok (.iload_n 1, 1) := by decide +kernel
theorem d_Hp_free_5 : decode b_Hp_free 5 = .ok (.iconst 0, 1) := by decide +kernel
theorem d_Hp_free_6 : decode b_Hp_free 6 = .ok (.iastore, 1) := by decide +kernel
theorem d_Hp_free_7 : decode b_Hp_free 7 = .ok (.aload_n 0, 1) := by decide +kernel
theorem d_Hp_free_8 : decode b_Hp_free 8 = .ok (.getfield 18, 3) := by decide +kernel
theorem d_Hp_free_11 : decode b_Hp_free 11 = .ok (.iload_n 1, 1) := by decide +kernel
theorem d_Hp_free_12 : decode b_Hp_free 12 = .ok (.iconst (-1), 1) := by decide +kernel
theorem d_Hp_free_13 : decode b_Hp_free 13 = .ok (.iastore, 1) := by decide +kernel
theorem d_Hp_free_14 : decode b_Hp_free 14 = .ok (.iconst 0, 1) := by decide +kernel
theorem d_Hp_free_15 : decode b_Hp_free 15 = .ok (.istore_n 2, 1) := by decide +kernel
theorem d_Hp_free_16 : decode b_Hp_free 16 = .ok (.iload_n 2, 1) := by decide +kernel
theorem d_Hp_free_17 : decode b_Hp_free 17 = .ok (.iconst 2, 1) := by decide +kernel
theorem d_Hp_free_18 : decode b_Hp_free 18 = .ok (.if_icmp .ge 16, 3) := by decide +kernel
theorem d_Hp_free_21 : decode b_Hp_free 21 = .ok (.aload_n 0, 1) := by decide +kernel
theorem d_Hp_free_22 : decode b_Hp_free 22 = .ok (.iload_n 1, 1) := by decide +kernel
theorem d_Hp_free_23 : decode b_Hp_free 23 = .ok (.iload_n 2, 1) := by decide +kernel
theorem d_Hp_free_24 : decode b_Hp_free 24 = .ok (.iconst 0, 1) := by decide +kernel
theorem d_Hp_free_25 : decode b_Hp_free 25 = .ok (.invokevirtual 29, 3) := by decide +kernel
theorem d_Hp_free_28 : decode b_Hp_free 28 = .ok (.iinc 2 1, 3) := by decide +kernel
theorem d_Hp_free_31 : decode b_Hp_free 31 = .ok (.goto (-15), 3) := by decide +kernel
theorem d_Hp_free_34 : decode b_Hp_free 34 = .ok (.return_, 1) := by decide +kernel
set_option maxHeartbeats 4000000 in
set_option maxRecDepth 100000 in
theorem c_Hp_free (l : Launch) (dC : Nat → ClassId) (dI : Nat → Nat → Nat) (ad : Nat → Nat) (cA : ClassId) (sz : Nat) (N : Nat) (a1 : Int32) (u : Mem) (r : Int32) (w : Mem) (h : f_Hp_free N a1 u = some (r, w)) : CtV l y_Hp_free (Cond.code y_Hp_free b_Hp_free 3 none :: lw_gd) 1 23 (dC, dI) cA [.ref (ad 2), .int a1] (wA ad cA) u sz (fun w1 => w1 = w) := by
  refine v_metV (own := R_Hp) [some (.ref (ad 2)), some (.int a1), none] rfl (by decide) (Nat.le_of_ble_eq_true rfl) rfl rfl ?_
  intro p e s m args below meth c A Q ret
  unfold f_Hp_free at h
  refine v_aload_n d_Hp_free_0 rfl rfl ?_
  refine vg_Hp_numbers d_Hp_free_1 rfl ?_
  refine v_iload_n d_Hp_free_4 rfl rfl ?_
  refine v_iconst 0 d_Hp_free_5 (by decide) rfl ?_
  obtain ⟨g1, h⟩ := gd_inv h
  obtain ⟨u2, eu2, h⟩ := jn_inv h
  refine v_ast 3 (wA_3 ad cA _) (ws_3 ad cA _ _ _) eu2 d_Hp_free_6 g1 rfl ?_
  refine v_aload_n d_Hp_free_7 rfl rfl ?_
  refine vg_Hp_entries d_Hp_free_8 rfl ?_
  refine v_iload_n d_Hp_free_11 rfl rfl ?_
  refine v_iconst (-1) d_Hp_free_12 (by decide) rfl ?_
  obtain ⟨g3, h⟩ := gd_inv h
  obtain ⟨u4, eu4, h⟩ := jn_inv h
  refine v_ast 5 (wA_5 ad cA _) (ws_5 ad cA _ _ _) eu4 d_Hp_free_13 g3 rfl ?_
  refine v_iconst 0 d_Hp_free_14 (by decide) rfl ?_
  refine v_istore_n (lo' := [_, _, _]) d_Hp_free_15 rfl (by decide) rfl ?_
  have L16 : ∀ (κ : Mem → Rs), (∀ (u12 : Mem), κ u12 = some (r, w) → VJ p l e 1 0 0 23 s m args below meth c 0 0 Q A b_Hp_free 3 R_Hp (dC, dI) cA (wA ad cA) 34 [none, none, none] [] u12) → ∀ (n : Nat) (x5 x6 : Int32) (u7 : Mem), k_Hp_free_16 N κ n x5 x6 u7 = some (r, w) → VJ p l e 1 0 0 23 s m args below meth c 0 0 Q A b_Hp_free 3 R_Hp (dC, dI) cA (wA ad cA) 16 [some (.ref (ad 2)), some (.int x5), some (.int x6)] [] u7 := by
    intro κ hκ n
    induction n with
    | zero =>
      intro x5 x6 u7 h
      exact no_ns h
    | succ n ih =>
      intro x5 x6 u7 h
      unfold k_Hp_free_16 at h
      refine v_iload_n d_Hp_free_16 rfl rfl ?_
      refine v_iconst 2 d_Hp_free_17 (by decide) rfl ?_
      refine v_icmp_ge 34 d_Hp_free_18 (by decide) rfl (fun c11 => ?_) (fun c11 => ?_)
      · replace h := (if_pos c11).symm.trans h
        refine v_drop 0 (lo' := [none, _, _]) rfl ?_
        refine v_drop 1 (lo' := [none, none, _]) rfl ?_
        refine v_drop 2 (lo' := [none, none, none]) rfl ?_
        exact hκ _ h
      · replace h := (if_neg c11).symm.trans h
        refine v_aload_n d_Hp_free_21 rfl rfl ?_
        refine v_iload_n d_Hp_free_22 rfl rfl ?_
        refine v_iload_n d_Hp_free_23 rfl rfl ?_
        refine v_iconst 0 d_Hp_free_24 (by decide) rfl ?_
        obtain ⟨_y8, u9, hc10, h⟩ := bd_inv h
        refine vc_Hp_Hp_setField hc10 (Nat.le_of_ble_eq_true rfl) (Nat.le_of_ble_eq_true rfl) (Nat.le_of_ble_eq_true rfl) d_Hp_free_25 rfl ?_
        refine v_iinc (lo' := [_, _, _]) 1 d_Hp_free_28 (by decide) rfl rfl (by decide) rfl ?_
        refine v_goto 16 d_Hp_free_31 (by decide) ?_
        exact ih _ _ _ h
  refine L16 _ (fun u12 h => ?_) N _ _ _ h
  obtain ⟨-, e2⟩ := rt_inv h
  exact ret _ _ _ e2 d_Hp_free_34
theorem vc_Sh_Hp_free {p : Program} {l : Launch} {e : Env} {fr rc rs rl : Nat} {s : State} {m : MethodId} {args : Array Value} {below : List Frame} {meth : Method} {c : Code} {cells slots : Nat} {Q : State → Prop} {A : Nat → Prop} {cc : ByteArray} {nL : Nat} {dC : Nat → ClassId} {dI : Nat → Nat → Nat} {cA : ClassId} {ad : Nat → Nat} {pc q : Nat} {lo : List (Option Value)} {rest : List Value} {u w : Mem} {r : Int32} {N : Nat} {b0 : Int32} (h : f_Hp_free N b0 u = some (r, w)) (hfr : 1 + 1 ≤ fr) (hrl : 8 + (3 + 11) + 23 ≤ rl) (hrm : (rest.map fun v => v.category).sum ≤ 8) (hd : decode cc pc = .ok (.invokevirtual 169, 3)) (hq : pc + 3 = q) (k : VJ p l e fr rc rs rl s m args below meth c cells slots Q A cc nL R_Sh (dC, dI) cA (wA ad cA) q lo rest w) : VJ p l e fr rc rs rl s m args below meth c cells slots Q A cc nL R_Sh (dC, dI) cA (wA ad cA) pc lo (.int b0 :: .ref (ad 2) :: rest) u :=
  v_callVV (As := [.int b0]) (rest := rest) (fun sz => c_Hp_free l dC dI ad cA sz N b0 u r w h) tw_303 tw_304 tw_305 2 (wA_2 ad cA u) rfl rfl tw_306 tw_25 1 rfl (by decide +kernel) hfr hrl rfl hrm hd hq (fun w1 hE => by subst hE; exact k)
theorem d_Sh_freeUnreached_0 : decode b_Sh_freeUnreached 0 = .ok (.iconst 0, 1) := by decide +kernel
theorem d_Sh_freeUnreached_1 : decode b_Sh_freeUnreached 1 = .ok (.istore_n 2, 1) := by decide +kernel
theorem d_Sh_freeUnreached_2 : decode b_Sh_freeUnreached 2 = .ok (.iload_n 1, 1) := by decide +kernel
theorem d_Sh_freeUnreached_3 : decode b_Sh_freeUnreached 3 = .ok (.bipush 8, 2) := by decide +kernel
theorem d_Sh_freeUnreached_5 : decode b_Sh_freeUnreached 5 = .ok (.imul, 1) := by decide +kernel
theorem d_Sh_freeUnreached_6 : decode b_Sh_freeUnreached 6 = .ok (.istore_n 3, 1) := by decide +kernel
theorem d_Sh_freeUnreached_7 : decode b_Sh_freeUnreached 7 = .ok (.iload_n 3, 1) := by decide +kernel
theorem d_Sh_freeUnreached_8 : decode b_Sh_freeUnreached 8 = .ok (.iload_n 1, 1) := by decide +kernel
theorem d_Sh_freeUnreached_9 : decode b_Sh_freeUnreached 9 = .ok (.iconst 1, 1) := by decide +kernel
theorem d_Sh_freeUnreached_10 : decode b_Sh_freeUnreached 10 = .ok (.iadd, 1) := by decide +kernel
theorem d_Sh_freeUnreached_11 : decode b_Sh_freeUnreached 11 = .ok (.bipush 8, 2) := by decide +kernel
theorem d_Sh_freeUnreached_13 : decode b_Sh_freeUnreached 13 = .ok (.imul, 1) := by decide +kernel
theorem d_Sh_freeUnreached_14 : decode b_Sh_freeUnreached 14 = .ok (.if_icmp .ge 41, 3) := by decide +kernel
theorem d_Sh_freeUnreached_17 : decode b_Sh_freeUnreached 17 = .ok (.aload_n 0, 1) := by decide +kernel
theorem d_Sh_freeUnreached_18 : decode b_Sh_freeUnreached 18 = .ok (.getfield 16, 3) := by decide +kernel
theorem d_Sh_freeUnreached_21 : decode b_Sh_freeUnreached 21 = .ok (.iload_n 3, 1) := by decide +kernel
theorem d_Sh_freeUnreached_22 : decode b_Sh_freeUnreached 22 = .ok (.invokevirtual 157, 3) := by decide +kernel
theorem d_Sh_freeUnreached_25 : decode b_Sh_freeUnreached 25 = .ok (.ifCond .eq 24, 3) := by decide +kernel
theorem d_Sh_freeUnreached_28 : decode b_Sh_freeUnreached 28 = .ok (.aload_n 0, 1) := by decide +kernel
theorem d_Sh_freeUnreached_29 : decode b_Sh_freeUnreached 29 = .ok (.getfield 40, 3) := by decide +kernel
theorem d_Sh_freeUnreached_32 : decode b_Sh_freeUnreached 32 = .ok (.iload_n 3, 1) := by decide +kernel
theorem d_Sh_freeUnreached_33 : decode b_Sh_freeUnreached 33 = .ok (.iaload, 1) := by decide +kernel
theorem d_Sh_freeUnreached_34 : decode b_Sh_freeUnreached 34 = .ok (.iconst (-1), 1) := by decide +kernel
theorem d_Sh_freeUnreached_35 : decode b_Sh_freeUnreached 35 = .ok (.if_icmp .ne 14, 3) := by decide +kernel
theorem d_Sh_freeUnreached_38 : decode b_Sh_freeUnreached 38 = .ok (.aload_n 0, 1) := by decide +kernel
theorem d_Sh_freeUnreached_39 : decode b_Sh_freeUnreached 39 = .ok (.getfield 16, 3) := by decide +kernel
theorem d_Sh_freeUnreached_42 : decode b_Sh_freeUnreached 42 = .ok (.iload_n 3, 1) := by decide +kernel
theorem d_Sh_freeUnreached_43 : decode b_Sh_freeUnreached 43 = .ok (.invokevirtual 169, 3) := by decide +kernel
theorem d_Sh_freeUnreached_46 : decode b_Sh_freeUnreached 46 = .ok (.iinc 2 1, 3) := by decide +kernel
theorem d_Sh_freeUnreached_49 : decode b_Sh_freeUnreached 49 = .ok (.iinc 3 1, 3) := by decide +kernel
theorem d_Sh_freeUnreached_52 : decode b_Sh_freeUnreached 52 = .ok (.goto (-45), 3) := by decide +kernel
theorem d_Sh_freeUnreached_55 : decode b_Sh_freeUnreached 55 = .ok (.iload_n 2, 1) := by decide +kernel
theorem d_Sh_freeUnreached_56 : decode b_Sh_freeUnreached 56 = .ok (.ireturn, 1) := by decide +kernel
set_option maxHeartbeats 4000000 in
set_option maxRecDepth 100000 in
theorem c_Sh_freeUnreached (l : Launch) (dC : Nat → ClassId) (dI : Nat → Nat → Nat) (ad : Nat → Nat) (cA : ClassId) (sz : Nat) (N : Nat) (a1 : Int32) (u : Mem) (r : Int32) (w : Mem) (h : f_Sh_freeUnreached N a1 u = some (r, w)) : CtI l y_Sh_freeUnreached (Cond.code y_Sh_freeUnreached b_Sh_freeUnreached 4 (some .int) :: lw_gd) 2 45 (dC, dI) cA [.ref (ad 0), .int a1] (wA ad cA) u sz (fun v w1 => v = r ∧ w1 = w) := by
  refine v_metI (own := R_Sh) [some (.ref (ad 0)), some (.int a1), none, none] rfl (by decide) (Nat.le_of_ble_eq_true rfl) rfl rfl (fun v u h => rfl) ?_
  intro p e s m args below meth c A Q ret
  unfold f_Sh_freeUnreached at h
  refine v_iconst 0 d_Sh_freeUnreached_0 (by decide) rfl ?_
  refine v_istore_n (lo' := [_, _, _, none]) d_Sh_freeUnreached_1 rfl (by decide) rfl ?_
  refine v_iload_n d_Sh_freeUnreached_2 rfl rfl ?_
  refine v_bipush 8 d_Sh_freeUnreached_3 (by decide) rfl ?_
  refine v_imul d_Sh_freeUnreached_5 rfl ?_
  refine v_istore_n (lo' := [_, _, _, _]) d_Sh_freeUnreached_6 rfl (by decide) rfl ?_
  have L7 : ∀ (κ : Int32 → Mem → Rs), (∀ (x15 : Int32) (u16 : Mem), κ x15 u16 = some (r, w) → VJ p l e 2 0 0 45 s m args below meth c 0 0 Q A b_Sh_freeUnreached 4 R_Sh (dC, dI) cA (wA ad cA) 55 [none, none, some (.int x15), none] [] u16) → ∀ (n : Nat) (x1 x2 x3 : Int32) (u4 : Mem), k_Sh_freeUnreached_7 N κ n x1 x2 x3 u4 = some (r, w) → VJ p l e 2 0 0 45 s m args below meth c 0 0 Q A b_Sh_freeUnreached 4 R_Sh (dC, dI) cA (wA ad cA) 7 [some (.ref (ad 0)), some (.int x1), some (.int x2), some (.int x3)] [] u4 := by
    intro κ hκ n
    induction n with
    | zero =>
      intro x1 x2 x3 u4 h
      exact no_ns h
    | succ n ih =>
      intro x1 x2 x3 u4 h
      unfold k_Sh_freeUnreached_7 at h
      refine v_iload_n d_Sh_freeUnreached_7 rfl rfl ?_
      refine v_iload_n d_Sh_freeUnreached_8 rfl rfl ?_
      refine v_iconst 1 d_Sh_freeUnreached_9 (by decide) rfl ?_
      refine v_iadd d_Sh_freeUnreached_10 rfl ?_
      refine v_bipush 8 d_Sh_freeUnreached_11 (by decide) rfl ?_
      refine v_imul d_Sh_freeUnreached_13 rfl ?_
      refine v_icmp_ge 55 d_Sh_freeUnreached_14 (by decide) rfl (fun c14 => ?_) (fun c14 => ?_)
      · replace h := (if_pos c14).symm.trans h
        refine v_drop 0 (lo' := [none, _, _, _]) rfl ?_
        refine v_drop 1 (lo' := [none, none, _, _]) rfl ?_
        refine v_drop 3 (lo' := [none, none, _, none]) rfl ?_
        exact hκ _ _ h
      · replace h := (if_neg c14).symm.trans h
        refine v_aload_n d_Sh_freeUnreached_17 rfl rfl ?_
        refine vg_Sh_heap d_Sh_freeUnreached_18 rfl ?_
        refine v_iload_n d_Sh_freeUnreached_21 rfl rfl ?_
        obtain ⟨y5, u6, hc7, h⟩ := bd_inv h
        refine vc_Sh_Hp_isTaken hc7 (Nat.le_of_ble_eq_true rfl) (Nat.le_of_ble_eq_true rfl) (Nat.le_of_ble_eq_true rfl) d_Sh_freeUnreached_22 rfl ?_
        refine v_if_eq 49 d_Sh_freeUnreached_25 (by decide) rfl (fun c13 => ?_) (fun c13 => ?_)
        · replace h := (if_pos c13).symm.trans h
          refine v_iinc (lo' := [_, _, _, _]) 1 d_Sh_freeUnreached_49 (by decide) rfl rfl (by decide) rfl ?_
          refine v_goto 7 d_Sh_freeUnreached_52 (by decide) ?_
          exact ih _ _ _ _ h
        · replace h := (if_neg c13).symm.trans h
          refine v_aload_n d_Sh_freeUnreached_28 rfl rfl ?_
          refine vg_Sh_reached d_Sh_freeUnreached_29 rfl ?_
          refine v_iload_n d_Sh_freeUnreached_32 rfl rfl ?_
          obtain ⟨g8, h⟩ := gd_inv h
          refine v_ald 14 (wA_14 ad cA _) d_Sh_freeUnreached_33 g8 rfl ?_
          refine v_iconst (-1) d_Sh_freeUnreached_34 (by decide) rfl ?_
          refine v_icmp_ne 49 d_Sh_freeUnreached_35 (by decide) rfl (fun c12 => ?_) (fun c12 => ?_)
          · replace h := (if_pos c12).symm.trans h
            refine v_aload_n d_Sh_freeUnreached_38 rfl rfl ?_
            refine vg_Sh_heap d_Sh_freeUnreached_39 rfl ?_
            refine v_iload_n d_Sh_freeUnreached_42 rfl rfl ?_
            obtain ⟨_y9, u10, hc11, h⟩ := bd_inv h
            refine vc_Sh_Hp_free hc11 (Nat.le_of_ble_eq_true rfl) (Nat.le_of_ble_eq_true rfl) (Nat.le_of_ble_eq_true rfl) d_Sh_freeUnreached_43 rfl ?_
            refine v_iinc (lo' := [_, _, _, _]) 1 d_Sh_freeUnreached_46 (by decide) rfl rfl (by decide) rfl ?_
            refine v_iinc (lo' := [_, _, _, _]) 1 d_Sh_freeUnreached_49 (by decide) rfl rfl (by decide) rfl ?_
            refine v_goto 7 d_Sh_freeUnreached_52 (by decide) ?_
            exact ih _ _ _ _ h
          · replace h := (if_neg c12).symm.trans h
            refine v_iinc (lo' := [_, _, _, _]) 1 d_Sh_freeUnreached_49 (by decide) rfl rfl (by decide) rfl ?_
            refine v_goto 7 d_Sh_freeUnreached_52 (by decide) ?_
            exact ih _ _ _ _ h
  refine L7 _ (fun x15 u16 h => ?_) N _ _ _ _ h
  refine v_iload_n d_Sh_freeUnreached_55 rfl rfl ?_
  obtain ⟨e1, e2⟩ := rt_inv h
  exact ret _ _ _ _ ⟨e1, e2⟩ d_Sh_freeUnreached_56
theorem vc_Sh_Sh_freeUnreached {p : Program} {l : Launch} {e : Env} {fr rc rs rl : Nat} {s : State} {m : MethodId} {args : Array Value} {below : List Frame} {meth : Method} {c : Code} {cells slots : Nat} {Q : State → Prop} {A : Nat → Prop} {cc : ByteArray} {nL : Nat} {dC : Nat → ClassId} {dI : Nat → Nat → Nat} {cA : ClassId} {ad : Nat → Nat} {pc q : Nat} {lo : List (Option Value)} {rest : List Value} {u w : Mem} {r : Int32} {N : Nat} {b0 : Int32} (h : f_Sh_freeUnreached N b0 u = some (r, w)) (hfr : 2 + 1 ≤ fr) (hrl : 8 + (4 + 11) + 45 ≤ rl) (hrm : (rest.map fun v => v.category).sum ≤ 8) (hd : decode cc pc = .ok (.invokevirtual 103, 3)) (hq : pc + 3 = q) (k : VJ p l e fr rc rs rl s m args below meth c cells slots Q A cc nL R_Sh (dC, dI) cA (wA ad cA) q lo (.int r :: rest) w) : VJ p l e fr rc rs rl s m args below meth c cells slots Q A cc nL R_Sh (dC, dI) cA (wA ad cA) pc lo (.int b0 :: .ref (ad 0) :: rest) u :=
  v_callVI (As := [.int b0]) (rest := rest) (fun sz => c_Sh_freeUnreached l dC dI ad cA sz N b0 u r w h) tw_299 tw_301 tw_13 0 (wA_0 ad cA u) rfl rfl tw_302 tw_24 1 rfl (by decide +kernel) hfr hrl rfl hrm hd hq (fun v w1 hE => by obtain ⟨rfl, rfl⟩ := hE; exact k)
