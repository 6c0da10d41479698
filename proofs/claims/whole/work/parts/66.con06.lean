/-! Contracts. -/
theorem d_Md_collect_0 : decode b_Md_collect 0 = .ok (.iload_n 1, 1) := by decide +kernel
theorem d_Md_collect_1 : decode b_Md_collect 1 = .ok (.iconst 0, 1) := by decide +kernel
theorem d_Md_collect_2 : decode b_Md_collect 2 = .ok (.iconst 2, 1) := by decide +kernel
theorem d_Md_collect_3 : decode b_Md_collect 3 = .ok (.invokestatic 38, 3) := by decide +kernel
theorem d_Md_collect_6 : decode b_Md_collect 6 = .ok (.ifCond .eq 18, 3) := by decide +kernel
theorem d_Md_collect_9 : decode b_Md_collect 9 = .ok (.aload_n 0, 1) := by decide +kernel
theorem d_Md_collect_10 : decode b_Md_collect 10 = .ok (.getfield 74, 3) := by decide +kernel
theorem d_Md_collect_13 : decode b_Md_collect 13 = .ok (.aload_n 0, 1) := by decide +kernel
theorem d_Md_collect_14 : decode b_Md_collect 14 = .ok (.iload_n 1, 1) := by decide +kernel
theorem d_Md_collect_15 : decode b_Md_collect 15 = .ok (.invokevirtual 77, 3) := by decide +kernel
theorem d_Md_collect_18 : decode b_Md_collect 18 = .ok (.iadd, 1) := by decide +kernel
theorem d_Md_collect_19 : decode b_Md_collect 19 = .ok (.bipush 40, 2) := by decide +kernel
theorem d_Md_collect_21 : decode b_Md_collect 21 = .ok (.if_icmp .le 5, 3) := by decide +kernel
theorem d_Md_collect_24 : decode b_Md_collect 24 = .ok (.iconst (-1), 1) := by decide +kernel
theorem d_Md_collect_25 : decode b_Md_collect 25 = .ok (.ireturn, 1) := by decide +kernel
theorem d_Md_collect_26 : decode b_Md_collect 26 = .ok (.aload_n 0, 1) := by decide +kernel
theorem d_Md_collect_27 : decode b_Md_collect 27 = .ok (.dup, 1) := by decide +kernel
theorem d_Md_collect_28 : decode b_Md_collect 28 = .ok (.getfield 50, 3) := by decide +kernel
theorem d_Md_collect_31 : decode b_Md_collect 31 = .ok (.iconst 1, 1) := by decide +kernel
theorem d_Md_collect_32 : decode b_Md_collect 32 = .ok (.iadd, 1) := by decide +kernel
theorem d_Md_collect_33 : decode b_Md_collect 33 = .ok (.putfield 50, 3) := by decide +kernel
theorem d_Md_collect_36 : decode b_Md_collect 36 = .ok (.iconst 1, 1) := by decide +kernel
theorem d_Md_collect_37 : decode b_Md_collect 37 = .ok (.istore_n 2, 1) := by decide +kernel
theorem d_Md_collect_38 : decode b_Md_collect 38 = .ok (.iload_n 2, 1) := by decide +kernel
theorem d_Md_collect_39 : decode b_Md_collect 39 = .ok (.aload_n 0, 1) := by decide +kernel
theorem d_Md_collect_40 : decode b_Md_collect 40 = .ok (.getfield 42, 3) := by decide +kernel
theorem d_Md_collect_43 : decode b_Md_collect 43 = .ok (.if_icmp .gt 51, 3) := by decide +kernel
theorem d_Md_collect_46 : decode b_Md_collect 46 = .ok (.aload_n 0, 1) := by decide +kernel
theorem d_Md_collect_47 : decode b_Md_collect 47 = .ok (.getfield 34, 3) := by decide +kernel
theorem d_Md_collect_50 : decode b_Md_collect 50 = .ok (.iload_n 2, 1) := by decide +kernel
theorem d_Md_collect_51 : decode b_Md_collect 51 = .ok (.aload_n 0, 1) := by decide +kernel
theorem d_Md_collect_52 : decode b_Md_collect 52 = .ok (.getfield 7, 3) := by decide +kernel
theorem d_Md_collect_55 : decode b_Md_collect 55 = .ok (.iload_n 2, 1) := by decide +kernel
theorem d_Md_collect_56 : decode b_Md_collect 56 = .ok (.iaload, 1) := by decide +kernel
theorem d_Md_collect_57 : decode b_Md_collect 57 = .ok (.iload_n 1, 1) := by decide +kernel
theorem d_Md_collect_58 : decode b_Md_collect 58 = .ok (.if_icmp .eq 7, 3) := by decide +kernel
theorem d_Md_collect_61 : decode b_Md_collect 61 = .ok (.iconst (-1), 1) := by decide +kernel
theorem d_Md_collect_62 : decode b_Md_collect 62 = .ok (.goto 25, 3) := by decide +kernel
theorem d_Md_collect_65 : decode b_Md_collect 65 = .ok (.aload_n 0, 1) := by decide +kernel
theorem d_Md_collect_66 : decode b_Md_collect 66 = .ok (.iload_n 1, 1) := by decide +kernel
theorem d_Md_collect_67 : decode b_Md_collect 67 = .ok (.iload_n 2, 1) := by decide +kernel
theorem d_Md_collect_68 : decode b_Md_collect 68 = .ok (.invokevirtual 71, 3) := by decide +kernel
theorem d_Md_collect_71 : decode b_Md_collect 71 = .ok (.ifCond .eq 10, 3) := by decide +kernel
theorem d_Md_collect_74 : decode b_Md_collect 74 = .ok (.aload_n 0, 1) := by decide +kernel
theorem d_Md_collect_75 : decode b_Md_collect 75 = .ok (.getfield 50, 3) := by decide +kernel
theorem d_Md_collect_78 : decode b_Md_collect 78 = .ok (.goto 9, 3) := by decide +kernel
theorem d_Md_collect_81 : decode b_Md_collect 81 = .ok (.aload_n 0, 1) := by decide +kernel
theorem d_Md_collect_82 : decode b_Md_collect 82 = .ok (.getfield 13, 3) := by decide +kernel
theorem d_Md_collect_85 : decode b_Md_collect 85 = .ok (.iload_n 2, 1) := by decide +kernel
theorem d_Md_collect_86 : decode b_Md_collect 86 = .ok (.iaload, 1) := by decide +kernel
theorem d_Md_collect_87 : decode b_Md_collect 87 = .ok (.iastore, 1) := by decide +kernel
theorem d_Md_collect_88 : decode b_Md_collect 88 = .ok (.iinc 2 1, 3) := by decide +kernel
theorem d_Md_collect_91 : decode b_Md_collect 91 = .ok (.goto (-53), 3) := by decide +kernel
theorem d_Md_collect_94 : decode b_Md_collect 94 = .ok (.iconst 1, 1) := by decide +kernel
theorem d_Md_collect_95 : decode b_Md_collect 95 = .ok (.istore_n 2, 1) := by decide +kernel
theorem d_Md_collect_96 : decode b_Md_collect 96 = .ok (.iload_n 2, 1) := by decide +kernel
theorem d_Md_collect_97 : decode b_Md_collect 97 = .ok (.ifCond .eq 12, 3) := by decide +kernel
theorem d_Md_collect_100 : decode b_Md_collect 100 = .ok (.aload_n 0, 1) := by decide +kernel
theorem d_Md_collect_101 : decode b_Md_collect 101 = .ok (.iload_n 1, 1) := by decide +kernel
theorem d_Md_collect_102 : decode b_Md_collect 102 = .ok (.invokevirtual 80, 3) := by decide +kernel
theorem d_Md_collect_105 : decode b_Md_collect 105 = .ok (.istore_n 2, 1) := by decide +kernel
theorem d_Md_collect_106 : decode b_Md_collect 106 = .ok (.goto (-10), 3) := by decide +kernel
theorem d_Md_collect_109 : decode b_Md_collect 109 = .ok (.iconst 0, 1) := by decide +kernel
theorem d_Md_collect_110 : decode b_Md_collect 110 = .ok (.istore_n 3, 1) := by decide +kernel
theorem d_Md_collect_111 : decode b_Md_collect 111 = .ok (.iconst 1, 1) := by decide +kernel
theorem d_Md_collect_112 : decode b_Md_collect 112 = .ok (.istore 4, 2) := by decide +kernel
theorem d_Md_collect_114 : decode b_Md_collect 114 = .ok (.iload 4, 2) := by decide +kernel
theorem d_Md_collect_116 : decode b_Md_collect 116 = .ok (.aload_n 0, 1) := by decide +kernel
theorem d_Md_collect_117 : decode b_Md_collect 117 = .ok (.getfield 42, 3) := by decide +kernel
theorem d_Md_collect_120 : decode b_Md_collect 120 = .ok (.if_icmp .gt 41, 3) := by decide +kernel
theorem d_Md_collect_123 : decode b_Md_collect 123 = .ok (.aload_n 0, 1) := by decide +kernel
theorem d_Md_collect_124 : decode b_Md_collect 124 = .ok (.getfield 7, 3) := by decide +kernel
theorem d_Md_collect_127 : decode b_Md_collect 127 = .ok (.iload 4, 2) := by decide +kernel
theorem d_Md_collect_129 : decode b_Md_collect 129 = .ok (.iaload, 1) := by decide +kernel
theorem d_Md_collect_130 : decode b_Md_collect 130 = .ok (.iload_n 1, 1) := by decide +kernel
theorem d_Md_collect_131 : decode b_Md_collect 131 = .ok (.if_icmp .ne 24, 3) := by decide +kernel
theorem d_Md_collect_134 : decode b_Md_collect 134 = .ok (.aload_n 0, 1) := by decide +kernel
theorem d_Md_collect_135 : decode b_Md_collect 135 = .ok (.getfield 34, 3) := by decide +kernel
theorem d_Md_collect_138 : decode b_Md_collect 138 = .ok (.iload 4, 2) := by decide +kernel
theorem d_Md_collect_140 : decode b_Md_collect 140 = .ok (.iaload, 1) := by decide +kernel
theorem d_Md_collect_141 : decode b_Md_collect 141 = .ok (.ifCond .ge 14, 3) := by decide +kernel
theorem d_Md_collect_144 : decode b_Md_collect 144 = .ok (.aload_n 0, 1) := by decide +kernel
theorem d_Md_collect_145 : decode b_Md_collect 145 = .ok (.getfield 7, 3) := by decide +kernel
theorem d_Md_collect_148 : decode b_Md_collect 148 = .ok (.iload 4, 2) := by decide +kernel
theorem d_Md_collect_150 : decode b_Md_collect 150 = .ok (.iconst (-1), 1) := by decide +kernel
theorem d_Md_collect_151 : decode b_Md_collect 151 = .ok (.iastore, 1) := by decide +kernel
theorem d_Md_collect_152 : decode b_Md_collect 152 = .ok (.iinc 3 1, 3) := by decide +kernel
theorem d_Md_collect_155 : decode b_Md_collect 155 = .ok (.iinc 4 1, 3) := by decide +kernel
theorem d_Md_collect_158 : decode b_Md_collect 158 = .ok (.goto (-44), 3) := by decide +kernel
theorem d_Md_collect_161 : decode b_Md_collect 161 = .ok (.iconst 1, 1) := by decide +kernel
theorem d_Md_collect_162 : decode b_Md_collect 162 = .ok (.istore 4, 2) := by decide +kernel
theorem d_Md_collect_164 : decode b_Md_collect 164 = .ok (.iload 4, 2) := by decide +kernel
theorem d_Md_collect_166 : decode b_Md_collect 166 = .ok (.aload_n 0, 1) := by decide +kernel
theorem d_Md_collect_167 : decode b_Md_collect 167 = .ok (.getfield 42, 3) := by decide +kernel
theorem d_Md_collect_170 : decode b_Md_collect 170 = .ok (.if_icmp .gt 30, 3) := by decide +kernel
theorem d_Md_collect_173 : decode b_Md_collect 173 = .ok (.aload_n 0, 1) := by decide +kernel
theorem d_Md_collect_174 : decode b_Md_collect 174 = .ok (.getfield 22, 3) := by decide +kernel
theorem d_Md_collect_177 : decode b_Md_collect 177 = .ok (.iconst 3, 1) := by decide +kernel
theorem d_Md_collect_178 : decode b_Md_collect 178 = .ok (.iload 4, 2) := by decide +kernel
theorem d_Md_collect_180 : decode b_Md_collect 180 = .ok (.imul, 1) := by decide +kernel
theorem d_Md_collect_181 : decode b_Md_collect 181 = .ok (.iload_n 1, 1) := by decide +kernel
theorem d_Md_collect_182 : decode b_Md_collect 182 = .ok (.iadd, 1) := by decide +kernel
theorem d_Md_collect_183 : decode b_Md_collect 183 = .ok (.iaload, 1) := by decide +kernel
theorem d_Md_collect_184 : decode b_Md_collect 184 = .ok (.ifCond .le 10, 3) := by decide +kernel
theorem d_Md_collect_187 : decode b_Md_collect 187 = .ok (.aload_n 0, 1) := by decide +kernel
theorem d_Md_collect_188 : decode b_Md_collect 188 = .ok (.iload_n 1, 1) := by decide +kernel
theorem d_Md_collect_189 : decode b_Md_collect 189 = .ok (.iload 4, 2) := by decide +kernel
theorem d_Md_collect_191 : decode b_Md_collect 191 = .ok (.invokevirtual 83, 3) := by decide +kernel
theorem d_Md_collect_194 : decode b_Md_collect 194 = .ok (.iinc 4 1, 3) := by decide +kernel
theorem d_Md_collect_197 : decode b_Md_collect 197 = .ok (.goto (-33), 3) := by decide +kernel
theorem d_Md_collect_200 : decode b_Md_collect 200 = .ok (.aload_n 0, 1) := by decide +kernel
theorem d_Md_collect_201 : decode b_Md_collect 201 = .ok (.getfield 25, 3) := by decide +kernel
theorem d_Md_collect_204 : decode b_Md_collect 204 = .ok (.iload_n 1, 1) := by decide +kernel
theorem d_Md_collect_205 : decode b_Md_collect 205 = .ok (.aload_n 0, 1) := by decide +kernel
theorem d_Md_collect_206 : decode b_Md_collect 206 = .ok (.getfield 50, 3) := by decide +kernel
theorem d_Md_collect_209 : decode b_Md_collect 209 = .ok (.iastore, 1) := by decide +kernel
theorem d_Md_collect_210 : decode b_Md_collect 210 = .ok (.aload_n 0, 1) := by decide +kernel
theorem d_Md_collect_211 : decode b_Md_collect 211 = .ok (.getfield 28, 3) := by decide +kernel
theorem d_Md_collect_214 : decode b_Md_collect 214 = .ok (.iload_n 1, 1) := by decide +kernel
theorem d_Md_collect_215 : decode b_Md_collect 215 = .ok (.ldc 37, 2) := by decide +kernel
theorem d_Md_collect_217 : decode b_Md_collect 217 = .ok (.iastore, 1) := by decide +kernel
theorem d_Md_collect_218 : decode b_Md_collect 218 = .ok (.iload_n 3, 1) := by decide +kernel
theorem d_Md_collect_219 : decode b_Md_collect 219 = .ok (.ireturn, 1) := by decide +kernel
set_option maxHeartbeats 4000000 in
set_option maxRecDepth 100000 in
theorem c_Md_collect (l : Launch) (dC : Nat → ClassId) (dI : Nat → Nat → Nat) (ad : Nat → Nat) (cA : ClassId) (sz : Nat) (N : Nat) (a1 : Int32) (u : Mem) (r : Int32) (w : Mem) (h : f_Md_collect N a1 u = some (r, w)) : CtI l y_Md_collect (Cond.code y_Md_collect b_Md_collect 5 (some .int) :: lw_gd) 3 71 (dC, dI) cA [.ref (ad 15), .int a1] (wA ad cA) u sz (fun v w1 => v = r ∧ w1 = w) := by
  refine v_metI (own := R_Md) [some (.ref (ad 15)), some (.int a1), none, none, none] rfl (by decide) (Nat.le_of_ble_eq_true rfl) rfl rfl (fun v u h => rfl) ?_
  intro p e s m args below meth c A Q ret
  unfold f_Md_collect at h
  refine v_iload_n d_Md_collect_0 rfl rfl ?_
  refine v_iconst 0 d_Md_collect_1 (by decide) rfl ?_
  refine v_iconst 2 d_Md_collect_2 (by decide) rfl ?_
  obtain ⟨y1, u2, hc3, h⟩ := bd_inv h
  refine vc_Md_Md_within hc3 (Nat.le_of_ble_eq_true rfl) (Nat.le_of_ble_eq_true rfl) (Nat.le_of_ble_eq_true rfl) d_Md_collect_3 rfl ?_
  refine v_if_eq 24 d_Md_collect_6 (by decide) rfl (fun c68 => ?_) (fun c68 => ?_)
  · replace h := (if_pos c68).symm.trans h
    refine v_iconst (-1) d_Md_collect_24 (by decide) rfl ?_
    obtain ⟨e1, e2⟩ := rt_inv h
    exact ret _ _ _ _ ⟨e1, e2⟩ d_Md_collect_25
  · replace h := (if_neg c68).symm.trans h
    refine v_aload_n d_Md_collect_9 rfl rfl ?_
    refine vg_Md_sent d_Md_collect_10 rfl ?_
    refine v_aload_n d_Md_collect_13 rfl rfl ?_
    refine v_iload_n d_Md_collect_14 rfl rfl ?_
    obtain ⟨y4, u5, hc6, h⟩ := bd_inv h
    refine vc_Md_Md_exits hc6 (Nat.le_of_ble_eq_true rfl) (Nat.le_of_ble_eq_true rfl) (Nat.le_of_ble_eq_true rfl) d_Md_collect_15 rfl ?_
    refine v_iadd d_Md_collect_18 rfl ?_
    refine v_bipush 40 d_Md_collect_19 (by decide) rfl ?_
    refine v_icmp_le 26 d_Md_collect_21 (by decide) rfl (fun c67 => ?_) (fun c67 => ?_)
    · replace h := (if_pos c67).symm.trans h
      refine v_aload_n d_Md_collect_26 rfl rfl ?_
      refine v_dup d_Md_collect_27 rfl rfl ?_
      refine vg_Md_clock d_Md_collect_28 rfl ?_
      refine v_iconst 1 d_Md_collect_31 (by decide) rfl ?_
      refine v_iadd d_Md_collect_32 rfl ?_
      obtain ⟨u7, eu7, h⟩ := jn_inv h
      refine vp_Md_clock eu7 d_Md_collect_33 rfl ?_
      refine v_iconst 1 d_Md_collect_36 (by decide) rfl ?_
      refine v_istore_n (lo' := [_, _, _, none, none]) d_Md_collect_37 rfl (by decide) rfl ?_
      have L38 : ∀ (κ : Int32 → Mem → Rs), (∀ (x25 : Int32) (u26 : Mem), κ x25 u26 = some (r, w) → VJ p l e 3 0 0 71 s m args below meth c 0 0 Q A b_Md_collect 5 R_Md (dC, dI) cA (wA ad cA) 94 [some (.ref (ad 15)), some (.int x25), none, none, none] [] u26) → ∀ (n : Nat) (x8 x9 : Int32) (u10 : Mem), k_Md_collect_38 N κ n x8 x9 u10 = some (r, w) → VJ p l e 3 0 0 71 s m args below meth c 0 0 Q A b_Md_collect 5 R_Md (dC, dI) cA (wA ad cA) 38 [some (.ref (ad 15)), some (.int x8), some (.int x9), none, none] [] u10 := by
        intro κ hκ n
        induction n with
        | zero =>
          intro x8 x9 u10 h
          exact no_ns h
        | succ n ih =>
          intro x8 x9 u10 h
          unfold k_Md_collect_38 at h
          refine v_iload_n d_Md_collect_38 rfl rfl ?_
          refine v_aload_n d_Md_collect_39 rfl rfl ?_
          refine vg_Md_made d_Md_collect_40 rfl ?_
          refine v_icmp_gt 94 d_Md_collect_43 (by decide) rfl (fun c24 => ?_) (fun c24 => ?_)
          · replace h := (if_pos c24).symm.trans h
            refine v_drop 2 (lo' := [_, _, none, none, none]) rfl ?_
            exact hκ _ _ h
          · replace h := (if_neg c24).symm.trans h
            refine v_aload_n d_Md_collect_46 rfl rfl ?_
            refine vg_Md_best d_Md_collect_47 rfl ?_
            refine v_iload_n d_Md_collect_50 rfl rfl ?_
            refine v_aload_n d_Md_collect_51 rfl rfl ?_
            refine vg_Md_ownerOf d_Md_collect_52 rfl ?_
            refine v_iload_n d_Md_collect_55 rfl rfl ?_
            obtain ⟨g11, h⟩ := gd_inv h
            refine v_ald 16 (wA_16 ad cA _) d_Md_collect_56 g11 rfl ?_
            refine v_iload_n d_Md_collect_57 rfl rfl ?_
            refine v_icmp_eq 65 d_Md_collect_58 (by decide) rfl (fun c23 => ?_) (fun c23 => ?_)
            · replace h := (if_pos c23).symm.trans h
              refine v_aload_n d_Md_collect_65 rfl rfl ?_
              refine v_iload_n d_Md_collect_66 rfl rfl ?_
              refine v_iload_n d_Md_collect_67 rfl rfl ?_
              obtain ⟨y12, u13, hc14, h⟩ := bd_inv h
              refine vc_Md_Md_roots hc14 (Nat.le_of_ble_eq_true rfl) (Nat.le_of_ble_eq_true rfl) (Nat.le_of_ble_eq_true rfl) d_Md_collect_68 rfl ?_
              refine v_if_eq 81 d_Md_collect_71 (by decide) rfl (fun c20 => ?_) (fun c20 => ?_)
              · replace h := (if_pos c20).symm.trans h
                refine v_aload_n d_Md_collect_81 rfl rfl ?_
                refine vg_Md_entryOf d_Md_collect_82 rfl ?_
                refine v_iload_n d_Md_collect_85 rfl rfl ?_
                obtain ⟨g15, h⟩ := gd_inv h
                refine v_ald 17 (wA_17 ad cA _) d_Md_collect_86 g15 rfl ?_
                obtain ⟨g16, h⟩ := gd_inv h
                obtain ⟨u17, eu17, h⟩ := jn_inv h
                refine v_ast 24 (wA_24 ad cA _) (ws_24 ad cA _ _ _) eu17 d_Md_collect_87 g16 rfl ?_
                refine v_iinc (lo' := [_, _, _, none, none]) 1 d_Md_collect_88 (by decide) rfl rfl (by decide) rfl ?_
                refine v_goto 38 d_Md_collect_91 (by decide) ?_
                exact ih _ _ _ h
              · replace h := (if_neg c20).symm.trans h
                refine v_aload_n d_Md_collect_74 rfl rfl ?_
                refine vg_Md_clock d_Md_collect_75 rfl ?_
                refine v_goto 87 d_Md_collect_78 (by decide) ?_
                obtain ⟨g18, h⟩ := gd_inv h
                obtain ⟨u19, eu19, h⟩ := jn_inv h
                refine v_ast 24 (wA_24 ad cA _) (ws_24 ad cA _ _ _) eu19 d_Md_collect_87 g18 rfl ?_
                refine v_iinc (lo' := [_, _, _, none, none]) 1 d_Md_collect_88 (by decide) rfl rfl (by decide) rfl ?_
                refine v_goto 38 d_Md_collect_91 (by decide) ?_
                exact ih _ _ _ h
            · replace h := (if_neg c23).symm.trans h
              refine v_iconst (-1) d_Md_collect_61 (by decide) rfl ?_
              refine v_goto 87 d_Md_collect_62 (by decide) ?_
              obtain ⟨g21, h⟩ := gd_inv h
              obtain ⟨u22, eu22, h⟩ := jn_inv h
              refine v_ast 24 (wA_24 ad cA _) (ws_24 ad cA _ _ _) eu22 d_Md_collect_87 g21 rfl ?_
              refine v_iinc (lo' := [_, _, _, none, none]) 1 d_Md_collect_88 (by decide) rfl rfl (by decide) rfl ?_
              refine v_goto 38 d_Md_collect_91 (by decide) ?_
              exact ih _ _ _ h
      refine L38 _ (fun x25 u26 h => ?_) N _ _ _ h
      refine v_iconst 1 d_Md_collect_94 (by decide) rfl ?_
      refine v_istore_n (lo' := [_, _, _, none, none]) d_Md_collect_95 rfl (by decide) rfl ?_
      have L96 : ∀ (κ : Int32 → Mem → Rs), (∀ (x34 : Int32) (u35 : Mem), κ x34 u35 = some (r, w) → VJ p l e 3 0 0 71 s m args below meth c 0 0 Q A b_Md_collect 5 R_Md (dC, dI) cA (wA ad cA) 109 [some (.ref (ad 15)), some (.int x34), none, none, none] [] u35) → ∀ (n : Nat) (x27 x28 : Int32) (u29 : Mem), k_Md_collect_96 N κ n x27 x28 u29 = some (r, w) → VJ p l e 3 0 0 71 s m args below meth c 0 0 Q A b_Md_collect 5 R_Md (dC, dI) cA (wA ad cA) 96 [some (.ref (ad 15)), some (.int x27), some (.int x28), none, none] [] u29 := by
        intro κ hκ n
        induction n with
        | zero =>
          intro x27 x28 u29 h
          exact no_ns h
        | succ n ih =>
          intro x27 x28 u29 h
          unfold k_Md_collect_96 at h
          refine v_iload_n d_Md_collect_96 rfl rfl ?_
          refine v_if_eq 109 d_Md_collect_97 (by decide) rfl (fun c33 => ?_) (fun c33 => ?_)
          · replace h := (if_pos c33).symm.trans h
            refine v_drop 2 (lo' := [_, _, none, none, none]) rfl ?_
            exact hκ _ _ h
          · replace h := (if_neg c33).symm.trans h
            refine v_aload_n d_Md_collect_100 rfl rfl ?_
            refine v_iload_n d_Md_collect_101 rfl rfl ?_
            obtain ⟨y30, u31, hc32, h⟩ := bd_inv h
            refine vc_Md_Md_spread hc32 (Nat.le_of_ble_eq_true rfl) (Nat.le_of_ble_eq_true rfl) (Nat.le_of_ble_eq_true rfl) d_Md_collect_102 rfl ?_
            refine v_istore_n (lo' := [_, _, _, none, none]) d_Md_collect_105 rfl (by decide) rfl ?_
            refine v_goto 96 d_Md_collect_106 (by decide) ?_
            exact ih _ _ _ h
      refine L96 _ (fun x34 u35 h => ?_) N _ _ _ h
      refine v_iconst 0 d_Md_collect_109 (by decide) rfl ?_
      refine v_istore_n (lo' := [_, _, none, _, none]) d_Md_collect_110 rfl (by decide) rfl ?_
      refine v_iconst 1 d_Md_collect_111 (by decide) rfl ?_
      refine v_istore (lo' := [_, _, none, _, _]) d_Md_collect_112 rfl (by decide) rfl ?_
      have L114 : ∀ (κ : Int32 → Int32 → Mem → Rs), (∀ (x47 x48 : Int32) (u49 : Mem), κ x47 x48 u49 = some (r, w) → VJ p l e 3 0 0 71 s m args below meth c 0 0 Q A b_Md_collect 5 R_Md (dC, dI) cA (wA ad cA) 161 [some (.ref (ad 15)), some (.int x47), none, some (.int x48), none] [] u49) → ∀ (n : Nat) (x36 x37 x38 : Int32) (u39 : Mem), k_Md_collect_114 N κ n x36 x37 x38 u39 = some (r, w) → VJ p l e 3 0 0 71 s m args below meth c 0 0 Q A b_Md_collect 5 R_Md (dC, dI) cA (wA ad cA) 114 [some (.ref (ad 15)), some (.int x36), none, some (.int x37), some (.int x38)] [] u39 := by
        intro κ hκ n
        induction n with
        | zero =>
          intro x36 x37 x38 u39 h
          exact no_ns h
        | succ n ih =>
          intro x36 x37 x38 u39 h
          unfold k_Md_collect_114 at h
          refine v_iload d_Md_collect_114 rfl rfl ?_
          refine v_aload_n d_Md_collect_116 rfl rfl ?_
          refine vg_Md_made d_Md_collect_117 rfl ?_
          refine v_icmp_gt 161 d_Md_collect_120 (by decide) rfl (fun c46 => ?_) (fun c46 => ?_)
          · replace h := (if_pos c46).symm.trans h
            refine v_drop 4 (lo' := [_, _, none, _, none]) rfl ?_
            exact hκ _ _ _ h
          · replace h := (if_neg c46).symm.trans h
            refine v_aload_n d_Md_collect_123 rfl rfl ?_
            refine vg_Md_ownerOf d_Md_collect_124 rfl ?_
            refine v_iload d_Md_collect_127 rfl rfl ?_
            obtain ⟨g40, h⟩ := gd_inv h
            refine v_ald 16 (wA_16 ad cA _) d_Md_collect_129 g40 rfl ?_
            refine v_iload_n d_Md_collect_130 rfl rfl ?_
            refine v_icmp_ne 155 d_Md_collect_131 (by decide) rfl (fun c45 => ?_) (fun c45 => ?_)
            · replace h := (if_pos c45).symm.trans h
              refine v_aload_n d_Md_collect_134 rfl rfl ?_
              refine vg_Md_best d_Md_collect_135 rfl ?_
              refine v_iload d_Md_collect_138 rfl rfl ?_
              obtain ⟨g41, h⟩ := gd_inv h
              refine v_ald 24 (wA_24 ad cA _) d_Md_collect_140 g41 rfl ?_
              refine v_if_ge 155 d_Md_collect_141 (by decide) rfl (fun c44 => ?_) (fun c44 => ?_)
              · replace h := (if_pos c44).symm.trans h
                refine v_iinc (lo' := [_, _, none, _, _]) 1 d_Md_collect_155 (by decide) rfl rfl (by decide) rfl ?_
                refine v_goto 114 d_Md_collect_158 (by decide) ?_
                exact ih _ _ _ _ h
              · replace h := (if_neg c44).symm.trans h
                refine v_aload_n d_Md_collect_144 rfl rfl ?_
                refine vg_Md_ownerOf d_Md_collect_145 rfl ?_
                refine v_iload d_Md_collect_148 rfl rfl ?_
                refine v_iconst (-1) d_Md_collect_150 (by decide) rfl ?_
                obtain ⟨g42, h⟩ := gd_inv h
                obtain ⟨u43, eu43, h⟩ := jn_inv h
                refine v_ast 16 (wA_16 ad cA _) (ws_16 ad cA _ _ _) eu43 d_Md_collect_151 g42 rfl ?_
                refine v_iinc (lo' := [_, _, none, _, _]) 1 d_Md_collect_152 (by decide) rfl rfl (by decide) rfl ?_
                refine v_iinc (lo' := [_, _, none, _, _]) 1 d_Md_collect_155 (by decide) rfl rfl (by decide) rfl ?_
                refine v_goto 114 d_Md_collect_158 (by decide) ?_
                exact ih _ _ _ _ h
            · replace h := (if_neg c45).symm.trans h
              refine v_iinc (lo' := [_, _, none, _, _]) 1 d_Md_collect_155 (by decide) rfl rfl (by decide) rfl ?_
              refine v_goto 114 d_Md_collect_158 (by decide) ?_
              exact ih _ _ _ _ h
      refine L114 _ (fun x47 x48 u49 h => ?_) N _ _ _ _ h
      refine v_iconst 1 d_Md_collect_161 (by decide) rfl ?_
      refine v_istore (lo' := [_, _, none, _, _]) d_Md_collect_162 rfl (by decide) rfl ?_
      have L164 : ∀ (κ : Int32 → Int32 → Mem → Rs), (∀ (x60 x61 : Int32) (u62 : Mem), κ x60 x61 u62 = some (r, w) → VJ p l e 3 0 0 71 s m args below meth c 0 0 Q A b_Md_collect 5 R_Md (dC, dI) cA (wA ad cA) 200 [some (.ref (ad 15)), some (.int x60), none, some (.int x61), none] [] u62) → ∀ (n : Nat) (x50 x51 x52 : Int32) (u53 : Mem), k_Md_collect_164 N κ n x50 x51 x52 u53 = some (r, w) → VJ p l e 3 0 0 71 s m args below meth c 0 0 Q A b_Md_collect 5 R_Md (dC, dI) cA (wA ad cA) 164 [some (.ref (ad 15)), some (.int x50), none, some (.int x51), some (.int x52)] [] u53 := by
        intro κ hκ n
        induction n with
        | zero =>
          intro x50 x51 x52 u53 h
          exact no_ns h
        | succ n ih =>
          intro x50 x51 x52 u53 h
          unfold k_Md_collect_164 at h
          refine v_iload d_Md_collect_164 rfl rfl ?_
          refine v_aload_n d_Md_collect_166 rfl rfl ?_
          refine vg_Md_made d_Md_collect_167 rfl ?_
          refine v_icmp_gt 200 d_Md_collect_170 (by decide) rfl (fun c59 => ?_) (fun c59 => ?_)
          · replace h := (if_pos c59).symm.trans h
            refine v_drop 4 (lo' := [_, _, none, _, none]) rfl ?_
            exact hκ _ _ _ h
          · replace h := (if_neg c59).symm.trans h
            refine v_aload_n d_Md_collect_173 rfl rfl ?_
            refine vg_Md_exitOf d_Md_collect_174 rfl ?_
            refine v_iconst 3 d_Md_collect_177 (by decide) rfl ?_
            refine v_iload d_Md_collect_178 rfl rfl ?_
            refine v_imul d_Md_collect_180 rfl ?_
            refine v_iload_n d_Md_collect_181 rfl rfl ?_
            refine v_iadd d_Md_collect_182 rfl ?_
            obtain ⟨g54, h⟩ := gd_inv h
            refine v_ald 20 (wA_20 ad cA _) d_Md_collect_183 g54 rfl ?_
            refine v_if_le 194 d_Md_collect_184 (by decide) rfl (fun c58 => ?_) (fun c58 => ?_)
            · replace h := (if_pos c58).symm.trans h
              refine v_iinc (lo' := [_, _, none, _, _]) 1 d_Md_collect_194 (by decide) rfl rfl (by decide) rfl ?_
              refine v_goto 164 d_Md_collect_197 (by decide) ?_
              exact ih _ _ _ _ h
            · replace h := (if_neg c58).symm.trans h
              refine v_aload_n d_Md_collect_187 rfl rfl ?_
              refine v_iload_n d_Md_collect_188 rfl rfl ?_
              refine v_iload d_Md_collect_189 rfl rfl ?_
              obtain ⟨_y55, u56, hc57, h⟩ := bd_inv h
              refine vc_Md_Md_settle hc57 (Nat.le_of_ble_eq_true rfl) (Nat.le_of_ble_eq_true rfl) (Nat.le_of_ble_eq_true rfl) d_Md_collect_191 rfl ?_
              refine v_iinc (lo' := [_, _, none, _, _]) 1 d_Md_collect_194 (by decide) rfl rfl (by decide) rfl ?_
              refine v_goto 164 d_Md_collect_197 (by decide) ?_
              exact ih _ _ _ _ h
      refine L164 _ (fun x60 x61 u62 h => ?_) N _ _ _ _ h
      refine v_aload_n d_Md_collect_200 rfl rfl ?_
      refine vg_Md_last d_Md_collect_201 rfl ?_
      refine v_iload_n d_Md_collect_204 rfl rfl ?_
      refine v_aload_n d_Md_collect_205 rfl rfl ?_
      refine vg_Md_clock d_Md_collect_206 rfl ?_
      obtain ⟨g63, h⟩ := gd_inv h
      obtain ⟨u64, eu64, h⟩ := jn_inv h
      refine v_ast 21 (wA_21 ad cA _) (ws_21 ad cA _ _ _) eu64 d_Md_collect_209 g63 rfl ?_
      refine v_aload_n d_Md_collect_210 rfl rfl ?_
      refine vg_Md_low d_Md_collect_211 rfl ?_
      refine v_iload_n d_Md_collect_214 rfl rfl ?_
      refine v_ldc tw_390 d_Md_collect_215 rfl ?_
      obtain ⟨g65, h⟩ := gd_inv h
      obtain ⟨u66, eu66, h⟩ := jn_inv h
      refine v_ast 22 (wA_22 ad cA _) (ws_22 ad cA _ _ _) eu66 d_Md_collect_217 g65 rfl ?_
      refine v_iload_n d_Md_collect_218 rfl rfl ?_
      obtain ⟨e1, e2⟩ := rt_inv h
      exact ret _ _ _ _ ⟨e1, e2⟩ d_Md_collect_219
    · replace h := (if_neg c67).symm.trans h
      refine v_iconst (-1) d_Md_collect_24 (by decide) rfl ?_
      obtain ⟨e1, e2⟩ := rt_inv h
      exact ret _ _ _ _ ⟨e1, e2⟩ d_Md_collect_25
theorem vc_La_Md_collect {p : Program} {l : Launch} {e : Env} {fr rc rs rl : Nat} {s : State} {m : MethodId} {args : Array Value} {below : List Frame} {meth : Method} {c : Code} {cells slots : Nat} {Q : State → Prop} {A : Nat → Prop} {cc : ByteArray} {nL : Nat} {dC : Nat → ClassId} {dI : Nat → Nat → Nat} {cA : ClassId} {ad : Nat → Nat} {pc q : Nat} {lo : List (Option Value)} {rest : List Value} {u w : Mem} {r : Int32} {N : Nat} {b0 : Int32} (h : f_Md_collect N b0 u = some (r, w)) (hfr : 3 + 1 ≤ fr) (hrl : 8 + (5 + 11) + 71 ≤ rl) (hrm : (rest.map fun v => v.category).sum ≤ 8) (hd : decode cc pc = .ok (.invokevirtual 41, 3)) (hq : pc + 3 = q) (k : VJ p l e fr rc rs rl s m args below meth c cells slots Q A cc nL R_La (dC, dI) cA (wA ad cA) q lo (.int r :: rest) w) : VJ p l e fr rc rs rl s m args below meth c cells slots Q A cc nL R_La (dC, dI) cA (wA ad cA) pc lo (.int b0 :: .ref (ad 15) :: rest) u :=
  v_callVI (As := [.int b0]) (rest := rest) (fun sz => c_Md_collect l dC dI ad cA sz N b0 u r w h) tw_473 tw_474 tw_475 15 (wA_15 ad cA u) rfl rfl tw_476 tw_28 1 rfl (by decide +kernel) hfr hrl rfl hrm hd hq (fun v w1 hE => by obtain ⟨rfl, rfl⟩ := hE; exact k)
theorem d_Md_deliver_0 : decode b_Md_deliver 0 = .ok (.iload_n 1, 1) := by decide +kernel
theorem d_Md_deliver_1 : decode b_Md_deliver 1 = .ok (.iconst 0, 1) := by decide +kernel
theorem d_Md_deliver_2 : decode b_Md_deliver 2 = .ok (.aload_n 0, 1) := by decide +kernel
theorem d_Md_deliver_3 : decode b_Md_deliver 3 = .ok (.getfield 74, 3) := by decide +kernel
theorem d_Md_deliver_6 : decode b_Md_deliver 6 = .ok (.iconst 1, 1) := by decide +kernel
theorem d_Md_deliver_7 : decode b_Md_deliver 7 = .ok (.isub, 1) := by decide +kernel
theorem d_Md_deliver_8 : decode b_Md_deliver 8 = .ok (.invokestatic 38, 3) := by decide +kernel
theorem d_Md_deliver_11 : decode b_Md_deliver 11 = .ok (.ifCond .ne 5, 3) := by decide +kernel
theorem d_Md_deliver_14 : decode b_Md_deliver 14 = .ok (.iconst 0, 1) := by decide +kernel
theorem d_Md_deliver_15 : decode b_Md_deliver 15 = .ok (.ireturn, 1) := by decide +kernel
theorem d_Md_deliver_16 : decode b_Md_deliver 16 = .ok (.aload_n 0, 1) := by decide +kernel
theorem d_Md_deliver_17 : decode b_Md_deliver 17 = .ok (.getfield 31, 3) := by decide +kernel
theorem d_Md_deliver_20 : decode b_Md_deliver 20 = .ok (.iconst 4, 1) := by decide +kernel
theorem d_Md_deliver_21 : decode b_Md_deliver 21 = .ok (.iload_n 1, 1) := by decide +kernel
theorem d_Md_deliver_22 : decode b_Md_deliver 22 = .ok (.imul, 1) := by decide +kernel
theorem d_Md_deliver_23 : decode b_Md_deliver 23 = .ok (.iconst 1, 1) := by decide +kernel
theorem d_Md_deliver_24 : decode b_Md_deliver 24 = .ok (.iadd, 1) := by decide +kernel
theorem d_Md_deliver_25 : decode b_Md_deliver 25 = .ok (.iaload, 1) := by decide +kernel
theorem d_Md_deliver_26 : decode b_Md_deliver 26 = .ok (.istore_n 2, 1) := by decide +kernel
theorem d_Md_deliver_27 : decode b_Md_deliver 27 = .ok (.aload_n 0, 1) := by decide +kernel
theorem d_Md_deliver_28 : decode b_Md_deliver 28 = .ok (.getfield 31, 3) := by decide +kernel
theorem d_Md_deliver_31 : decode b_Md_deliver 31 = .ok (.iconst 4, 1) := by decide +kernel
theorem d_Md_deliver_32 : decode b_Md_deliver 32 = .ok (.iload_n 1, 1) := by decide +kernel
theorem d_Md_deliver_33 : decode b_Md_deliver 33 = .ok (.imul, 1) := by decide +kernel
theorem d_Md_deliver_34 : decode b_Md_deliver 34 = .ok (.iconst 2, 1) := by decide +kernel
theorem d_Md_deliver_35 : decode b_Md_deliver 35 = .ok (.iadd, 1) := by decide +kernel
theorem d_Md_deliver_36 : decode b_Md_deliver 36 = .ok (.iaload, 1) := by decide +kernel
theorem d_Md_deliver_37 : decode b_Md_deliver 37 = .ok (.istore_n 3, 1) := by decide +kernel
theorem d_Md_deliver_38 : decode b_Md_deliver 38 = .ok (.aload_n 0, 1) := by decide +kernel
theorem d_Md_deliver_39 : decode b_Md_deliver 39 = .ok (.dup, 1) := by decide +kernel
theorem d_Md_deliver_40 : decode b_Md_deliver 40 = .ok (.getfield 74, 3) := by decide +kernel
theorem d_Md_deliver_43 : decode b_Md_deliver 43 = .ok (.iconst 1, 1) := by decide +kernel
theorem d_Md_deliver_44 : decode b_Md_deliver 44 = .ok (.isub, 1) := by decide +kernel
theorem d_Md_deliver_45 : decode b_Md_deliver 45 = .ok (.putfield 74, 3) := by decide +kernel
theorem d_Md_deliver_48 : decode b_Md_deliver 48 = .ok (.iconst 4, 1) := by decide +kernel
theorem d_Md_deliver_49 : decode b_Md_deliver 49 = .ok (.iload_n 1, 1) := by decide +kernel
theorem d_Md_deliver_50 : decode b_Md_deliver 50 = .ok (.imul, 1) := by decide +kernel
theorem d_Md_deliver_51 : decode b_Md_deliver 51 = .ok (.istore 4, 2) := by decide +kernel
theorem d_Md_deliver_53 : decode b_Md_deliver 53 = .ok (.iload 4, 2) := by decide +kernel
theorem d_Md_deliver_55 : decode b_Md_deliver 55 = .ok (.iconst 4, 1) := by decide +kernel
theorem d_Md_deliver_56 : decode b_Md_deliver 56 = .ok (.aload_n 0, 1) := by decide +kernel
theorem d_Md_deliver_57 : decode b_Md_deliver 57 = .ok (.getfield 74, 3) := by decide +kernel
theorem d_Md_deliver_60 : decode b_Md_deliver 60 = .ok (.imul, 1) := by decide +kernel
theorem d_Md_deliver_61 : decode b_Md_deliver 61 = .ok (.if_icmp .ge 25, 3) := by decide +kernel
theorem d_Md_deliver_64 : decode b_Md_deliver 64 = .ok (.aload_n 0, 1) := by decide +kernel
theorem d_Md_deliver_65 : decode b_Md_deliver 65 = .ok (.getfield 31, 3) := by decide +kernel
theorem d_Md_deliver_68 : decode b_Md_deliver 68 = .ok (.iload 4, 2) := by decide +kernel
theorem d_Md_deliver_70 : decode b_Md_deliver 70 = .ok (.aload_n 0, 1) := by decide +kernel
theorem d_Md_deliver_71 : decode b_Md_deliver 71 = .ok (.getfield 31, 3) := by decide +kernel
theorem d_Md_deliver_74 : decode b_Md_deliver 74 = .ok (.iload 4, 2) := by decide +kernel
theorem d_Md_deliver_76 : decode b_Md_deliver 76 = .ok (.iconst 4, 1) := by decide +kernel
theorem d_Md_deliver_77 : decode b_Md_deliver 77 = .ok (.iadd, 1) := by decide +kernel
theorem d_Md_deliver_78 : decode b_Md_deliver 78 = .ok (.iaload, 1) := by decide +kernel
theorem d_Md_deliver_79 : decode b_Md_deliver 79 = .ok (.iastore, 1) := by decide +kernel
theorem d_Md_deliver_80 : decode b_Md_deliver 80 = .ok (.iinc 4 1, 3) := by decide +kernel
theorem d_Md_deliver_83 : decode b_Md_deliver 83 = .ok (.goto (-30), 3) := by decide +kernel
theorem d_Md_deliver_86 : decode b_Md_deliver 86 = .ok (.aload_n 0, 1) := by decide +kernel
theorem d_Md_deliver_87 : decode b_Md_deliver 87 = .ok (.iload_n 2, 1) := by decide +kernel
theorem d_Md_deliver_88 : decode b_Md_deliver 88 = .ok (.invokevirtual 46, 3) := by decide +kernel
theorem d_Md_deliver_91 : decode b_Md_deliver 91 = .ok (.ifCond .eq 18, 3) := by decide +kernel
theorem d_Md_deliver_94 : decode b_Md_deliver 94 = .ok (.aload_n 0, 1) := by decide +kernel
theorem d_Md_deliver_95 : decode b_Md_deliver 95 = .ok (.getfield 13, 3) := by decide +kernel
theorem d_Md_deliver_98 : decode b_Md_deliver 98 = .ok (.iload_n 2, 1) := by decide +kernel
theorem d_Md_deliver_99 : decode b_Md_deliver 99 = .ok (.iaload, 1) := by decide +kernel
theorem d_Md_deliver_100 : decode b_Md_deliver 100 = .ok (.ifCond .lt 9, 3) := by decide +kernel
theorem d_Md_deliver_103 : decode b_Md_deliver 103 = .ok (.aload_n 0, 1) := by decide +kernel
theorem d_Md_deliver_104 : decode b_Md_deliver 104 = .ok (.iload_n 2, 1) := by decide +kernel
theorem d_Md_deliver_105 : decode b_Md_deliver 105 = .ok (.iload_n 3, 1) := by decide +kernel
theorem d_Md_deliver_106 : decode b_Md_deliver 106 = .ok (.invokevirtual 53, 3) := by decide +kernel
theorem d_Md_deliver_109 : decode b_Md_deliver 109 = .ok (.iconst 1, 1) := by decide +kernel
theorem d_Md_deliver_110 : decode b_Md_deliver 110 = .ok (.ireturn, 1) := by decide +kernel
set_option maxHeartbeats 4000000 in
set_option maxRecDepth 100000 in
theorem c_Md_deliver (l : Launch) (dC : Nat → ClassId) (dI : Nat → Nat → Nat) (ad : Nat → Nat) (cA : ClassId) (sz : Nat) (N : Nat) (a1 : Int32) (u : Mem) (r : Int32) (w : Mem) (h : f_Md_deliver N a1 u = some (r, w)) : CtI l y_Md_deliver (Cond.code y_Md_deliver b_Md_deliver 5 (some .boolean) :: lw_gd) 2 43 (dC, dI) cA [.ref (ad 15), .int a1] (wA ad cA) u sz (fun v w1 => v = r ∧ w1 = w ∧ (v = 0 ∨ v = 1)) := by
  refine v_metI (own := R_Md) [some (.ref (ad 15)), some (.int a1), none, none, none] rfl (by decide) (Nat.le_of_ble_eq_true rfl) rfl rfl (fun v u h => by rcases h.2.2 with h | h <;> rw [h] <;> rfl) ?_
  intro p e s m args below meth c A Q ret
  unfold f_Md_deliver at h
  refine v_iload_n d_Md_deliver_0 rfl rfl ?_
  refine v_iconst 0 d_Md_deliver_1 (by decide) rfl ?_
  refine v_aload_n d_Md_deliver_2 rfl rfl ?_
  refine vg_Md_sent d_Md_deliver_3 rfl ?_
  refine v_iconst 1 d_Md_deliver_6 (by decide) rfl ?_
  refine v_isub d_Md_deliver_7 rfl ?_
  obtain ⟨y1, u2, hc3, h⟩ := bd_inv h
  refine vc_Md_Md_within hc3 (Nat.le_of_ble_eq_true rfl) (Nat.le_of_ble_eq_true rfl) (Nat.le_of_ble_eq_true rfl) d_Md_deliver_8 rfl ?_
  refine v_if_ne 16 d_Md_deliver_11 (by decide) rfl (fun c27 => ?_) (fun c27 => ?_)
  · replace h := (if_pos c27).symm.trans h
    refine v_iconst 0 d_Md_deliver_14 (by decide) rfl ?_
    obtain ⟨e1, e2⟩ := rt_inv h
    exact ret _ _ _ _ ⟨e1, e2, Or.inl rfl⟩ d_Md_deliver_15
  · replace h := (if_neg c27).symm.trans h
    refine v_aload_n d_Md_deliver_16 rfl rfl ?_
    refine vg_Md_post d_Md_deliver_17 rfl ?_
    refine v_iconst 4 d_Md_deliver_20 (by decide) rfl ?_
    refine v_iload_n d_Md_deliver_21 rfl rfl ?_
    refine v_imul d_Md_deliver_22 rfl ?_
    refine v_iconst 1 d_Md_deliver_23 (by decide) rfl ?_
    refine v_iadd d_Md_deliver_24 rfl ?_
    obtain ⟨g4, h⟩ := gd_inv h
    refine v_ald 23 (wA_23 ad cA _) d_Md_deliver_25 g4 rfl ?_
    refine v_istore_n (lo' := [_, _, _, none, none]) d_Md_deliver_26 rfl (by decide) rfl ?_
    refine v_aload_n d_Md_deliver_27 rfl rfl ?_
    refine vg_Md_post d_Md_deliver_28 rfl ?_
    refine v_iconst 4 d_Md_deliver_31 (by decide) rfl ?_
    refine v_iload_n d_Md_deliver_32 rfl rfl ?_
    refine v_imul d_Md_deliver_33 rfl ?_
    refine v_iconst 2 d_Md_deliver_34 (by decide) rfl ?_
    refine v_iadd d_Md_deliver_35 rfl ?_
    obtain ⟨g5, h⟩ := gd_inv h
    refine v_ald 23 (wA_23 ad cA _) d_Md_deliver_36 g5 rfl ?_
    refine v_istore_n (lo' := [_, _, _, _, none]) d_Md_deliver_37 rfl (by decide) rfl ?_
    refine v_aload_n d_Md_deliver_38 rfl rfl ?_
    refine v_dup d_Md_deliver_39 rfl rfl ?_
    refine vg_Md_sent d_Md_deliver_40 rfl ?_
    refine v_iconst 1 d_Md_deliver_43 (by decide) rfl ?_
    refine v_isub d_Md_deliver_44 rfl ?_
    obtain ⟨u6, eu6, h⟩ := jn_inv h
    refine vp_Md_sent eu6 d_Md_deliver_45 rfl ?_
    refine v_iconst 4 d_Md_deliver_48 (by decide) rfl ?_
    refine v_iload_n d_Md_deliver_49 rfl rfl ?_
    refine v_imul d_Md_deliver_50 rfl ?_
    refine v_istore (lo' := [_, _, _, _, _]) d_Md_deliver_51 rfl (by decide) rfl ?_
    have L53 : ∀ (κ : Int32 → Int32 → Mem → Rs), (∀ (x15 x16 : Int32) (u17 : Mem), κ x15 x16 u17 = some (r, w) → VJ p l e 2 0 0 43 s m args below meth c 0 0 Q A b_Md_deliver 5 R_Md (dC, dI) cA (wA ad cA) 86 [some (.ref (ad 15)), none, some (.int x15), some (.int x16), none] [] u17) → ∀ (n : Nat) (x7 x8 x9 : Int32) (u10 : Mem), k_Md_deliver_53 N κ n x7 x8 x9 u10 = some (r, w) → VJ p l e 2 0 0 43 s m args below meth c 0 0 Q A b_Md_deliver 5 R_Md (dC, dI) cA (wA ad cA) 53 [some (.ref (ad 15)), none, some (.int x7), some (.int x8), some (.int x9)] [] u10 := by
      intro κ hκ n
      induction n with
      | zero =>
        intro x7 x8 x9 u10 h
        exact no_ns h
      | succ n ih =>
        intro x7 x8 x9 u10 h
        unfold k_Md_deliver_53 at h
        refine v_iload d_Md_deliver_53 rfl rfl ?_
        refine v_iconst 4 d_Md_deliver_55 (by decide) rfl ?_
        refine v_aload_n d_Md_deliver_56 rfl rfl ?_
        refine vg_Md_sent d_Md_deliver_57 rfl ?_
        refine v_imul d_Md_deliver_60 rfl ?_
        refine v_icmp_ge 86 d_Md_deliver_61 (by decide) rfl (fun c14 => ?_) (fun c14 => ?_)
        · replace h := (if_pos c14).symm.trans h
          refine v_drop 4 (lo' := [_, none, _, _, none]) rfl ?_
          exact hκ _ _ _ h
        · replace h := (if_neg c14).symm.trans h
          refine v_aload_n d_Md_deliver_64 rfl rfl ?_
          refine vg_Md_post d_Md_deliver_65 rfl ?_
          refine v_iload d_Md_deliver_68 rfl rfl ?_
          refine v_aload_n d_Md_deliver_70 rfl rfl ?_
          refine vg_Md_post d_Md_deliver_71 rfl ?_
          refine v_iload d_Md_deliver_74 rfl rfl ?_
          refine v_iconst 4 d_Md_deliver_76 (by decide) rfl ?_
          refine v_iadd d_Md_deliver_77 rfl ?_
          obtain ⟨g11, h⟩ := gd_inv h
          refine v_ald 23 (wA_23 ad cA _) d_Md_deliver_78 g11 rfl ?_
          obtain ⟨g12, h⟩ := gd_inv h
          obtain ⟨u13, eu13, h⟩ := jn_inv h
          refine v_ast 23 (wA_23 ad cA _) (ws_23 ad cA _ _ _) eu13 d_Md_deliver_79 g12 rfl ?_
          refine v_iinc (lo' := [_, none, _, _, _]) 1 d_Md_deliver_80 (by decide) rfl rfl (by decide) rfl ?_
          refine v_goto 53 d_Md_deliver_83 (by decide) ?_
          exact ih _ _ _ _ h
    refine v_drop 1 (lo' := [_, none, _, _, _]) rfl ?_
    refine L53 _ (fun x15 x16 u17 h => ?_) N _ _ _ _ h
    refine v_aload_n d_Md_deliver_86 rfl rfl ?_
    refine v_iload_n d_Md_deliver_87 rfl rfl ?_
    obtain ⟨y18, u19, hc20, h⟩ := bd_inv h
    refine vc_Md_Md_there hc20 (Nat.le_of_ble_eq_true rfl) (Nat.le_of_ble_eq_true rfl) (Nat.le_of_ble_eq_true rfl) d_Md_deliver_88 rfl ?_
    refine v_if_eq 109 d_Md_deliver_91 (by decide) rfl (fun c26 => ?_) (fun c26 => ?_)
    · replace h := (if_pos c26).symm.trans h
      refine v_iconst 1 d_Md_deliver_109 (by decide) rfl ?_
      obtain ⟨e1, e2⟩ := rt_inv h
      exact ret _ _ _ _ ⟨e1, e2, Or.inr rfl⟩ d_Md_deliver_110
    · replace h := (if_neg c26).symm.trans h
      refine v_aload_n d_Md_deliver_94 rfl rfl ?_
      refine vg_Md_entryOf d_Md_deliver_95 rfl ?_
      refine v_iload_n d_Md_deliver_98 rfl rfl ?_
      obtain ⟨g21, h⟩ := gd_inv h
      refine v_ald 17 (wA_17 ad cA _) d_Md_deliver_99 g21 rfl ?_
      refine v_if_lt 109 d_Md_deliver_100 (by decide) rfl (fun c25 => ?_) (fun c25 => ?_)
      · replace h := (if_pos c25).symm.trans h
        refine v_iconst 1 d_Md_deliver_109 (by decide) rfl ?_
        obtain ⟨e1, e2⟩ := rt_inv h
        exact ret _ _ _ _ ⟨e1, e2, Or.inr rfl⟩ d_Md_deliver_110
      · replace h := (if_neg c25).symm.trans h
        refine v_aload_n d_Md_deliver_103 rfl rfl ?_
        refine v_iload_n d_Md_deliver_104 rfl rfl ?_
        refine v_iload_n d_Md_deliver_105 rfl rfl ?_
        obtain ⟨_y22, u23, hc24, h⟩ := bd_inv h
        refine vc_Md_Md_raise hc24 (Nat.le_of_ble_eq_true rfl) (Nat.le_of_ble_eq_true rfl) (Nat.le_of_ble_eq_true rfl) d_Md_deliver_106 rfl ?_
        refine v_iconst 1 d_Md_deliver_109 (by decide) rfl ?_
        obtain ⟨e1, e2⟩ := rt_inv h
        exact ret _ _ _ _ ⟨e1, e2, Or.inr rfl⟩ d_Md_deliver_110
theorem vc_La_Md_deliver {p : Program} {l : Launch} {e : Env} {fr rc rs rl : Nat} {s : State} {m : MethodId} {args : Array Value} {below : List Frame} {meth : Method} {c : Code} {cells slots : Nat} {Q : State → Prop} {A : Nat → Prop} {cc : ByteArray} {nL : Nat} {dC : Nat → ClassId} {dI : Nat → Nat → Nat} {cA : ClassId} {ad : Nat → Nat} {pc q : Nat} {lo : List (Option Value)} {rest : List Value} {u w : Mem} {r : Int32} {N : Nat} {b0 : Int32} (h : f_Md_deliver N b0 u = some (r, w)) (hfr : 2 + 1 ≤ fr) (hrl : 8 + (5 + 11) + 43 ≤ rl) (hrm : (rest.map fun v => v.category).sum ≤ 8) (hd : decode cc pc = .ok (.invokevirtual 46, 3)) (hq : pc + 3 = q) (k : VJ p l e fr rc rs rl s m args below meth c cells slots Q A cc nL R_La (dC, dI) cA (wA ad cA) q lo (.int r :: rest) w) : VJ p l e fr rc rs rl s m args below meth c cells slots Q A cc nL R_La (dC, dI) cA (wA ad cA) pc lo (.int b0 :: .ref (ad 15) :: rest) u :=
  v_callVI (As := [.int b0]) (rest := rest) (fun sz => c_Md_deliver l dC dI ad cA sz N b0 u r w h) tw_497 tw_498 tw_499 15 (wA_15 ad cA u) rfl rfl tw_500 tw_28 1 rfl (by decide +kernel) hfr hrl rfl hrm hd hq (fun v w1 hE => by obtain ⟨rfl, rfl, -⟩ := hE; exact k)
theorem d_Md_redo_0 : decode b_Md_redo 0 = .ok (.iload_n 1, 1) := by decide +kernel
theorem d_Md_redo_1 : decode b_Md_redo 1 = .ok (.iconst 0, 1) := by decide +kernel
theorem d_Md_redo_2 : decode b_Md_redo 2 = .ok (.iconst 2, 1) := by decide +kernel
theorem d_Md_redo_3 : decode b_Md_redo 3 = .ok (.invokestatic 38, 3) := by decide +kernel
theorem d_Md_redo_6 : decode b_Md_redo 6 = .ok (.ifCond .ne 5, 3) := by decide +kernel
theorem d_Md_redo_9 : decode b_Md_redo 9 = .ok (.iconst (-1), 1) := by decide +kernel
theorem d_Md_redo_10 : decode b_Md_redo 10 = .ok (.ireturn, 1) := by decide +kernel
theorem d_Md_redo_11 : decode b_Md_redo 11 = .ok (.aload_n 0, 1) := by decide +kernel
theorem d_Md_redo_12 : decode b_Md_redo 12 = .ok (.getfield 25, 3) := by decide +kernel
theorem d_Md_redo_15 : decode b_Md_redo 15 = .ok (.iload_n 1, 1) := by decide +kernel
theorem d_Md_redo_16 : decode b_Md_redo 16 = .ok (.iaload, 1) := by decide +kernel
theorem d_Md_redo_17 : decode b_Md_redo 17 = .ok (.aload_n 0, 1) := by decide +kernel
theorem d_Md_redo_18 : decode b_Md_redo 18 = .ok (.getfield 28, 3) := by decide +kernel
theorem d_Md_redo_21 : decode b_Md_redo 21 = .ok (.iload_n 1, 1) := by decide +kernel
theorem d_Md_redo_22 : decode b_Md_redo 22 = .ok (.iaload, 1) := by decide +kernel
theorem d_Md_redo_23 : decode b_Md_redo 23 = .ok (.if_icmp .ge 12, 3) := by decide +kernel
theorem d_Md_redo_26 : decode b_Md_redo 26 = .ok (.aload_n 0, 1) := by decide +kernel
theorem d_Md_redo_27 : decode b_Md_redo 27 = .ok (.getfield 25, 3) := by decide +kernel
theorem d_Md_redo_30 : decode b_Md_redo 30 = .ok (.iload_n 1, 1) := by decide +kernel
theorem d_Md_redo_31 : decode b_Md_redo 31 = .ok (.iaload, 1) := by decide +kernel
theorem d_Md_redo_32 : decode b_Md_redo 32 = .ok (.goto 9, 3) := by decide +kernel
theorem d_Md_redo_35 : decode b_Md_redo 35 = .ok (.aload_n 0, 1) := by decide +kernel
theorem d_Md_redo_36 : decode b_Md_redo 36 = .ok (.getfield 28, 3) := by decide +kernel
theorem d_Md_redo_39 : decode b_Md_redo 39 = .ok (.iload_n 1, 1) := by decide +kernel
theorem d_Md_redo_40 : decode b_Md_redo 40 = .ok (.iaload, 1) := by decide +kernel
theorem d_Md_redo_41 : decode b_Md_redo 41 = .ok (.istore_n 2, 1) := by decide +kernel
theorem d_Md_redo_42 : decode b_Md_redo 42 = .ok (.iconst 0, 1) := by decide +kernel
theorem d_Md_redo_43 : decode b_Md_redo 43 = .ok (.istore_n 3, 1) := by decide +kernel
theorem d_Md_redo_44 : decode b_Md_redo 44 = .ok (.iload_n 3, 1) := by decide +kernel
theorem d_Md_redo_45 : decode b_Md_redo 45 = .ok (.aload_n 0, 1) := by decide +kernel
theorem d_Md_redo_46 : decode b_Md_redo 46 = .ok (.getfield 74, 3) := by decide +kernel
theorem d_Md_redo_49 : decode b_Md_redo 49 = .ok (.if_icmp .ge 50, 3) := by decide +kernel
theorem d_Md_redo_52 : decode b_Md_redo 52 = .ok (.aload_n 0, 1) := by decide +kernel
theorem d_Md_redo_53 : decode b_Md_redo 53 = .ok (.getfield 31, 3) := by decide +kernel
theorem d_Md_redo_56 : decode b_Md_redo 56 = .ok (.iconst 4, 1) := by decide +kernel
theorem d_Md_redo_57 : decode b_Md_redo 57 = .ok (.iload_n 3, 1) := by decide +kernel
theorem d_Md_redo_58 : decode b_Md_redo 58 = .ok (.imul, 1) := by decide +kernel
theorem d_Md_redo_59 : decode b_Md_redo 59 = .ok (.iaload, 1) := by decide +kernel
theorem d_Md_redo_60 : decode b_Md_redo 60 = .ok (.iload_n 1, 1) := by decide +kernel
theorem d_Md_redo_61 : decode b_Md_redo 61 = .ok (.if_icmp .ne 30, 3) := by decide +kernel
theorem d_Md_redo_64 : decode b_Md_redo 64 = .ok (.aload_n 0, 1) := by decide +kernel
theorem d_Md_redo_65 : decode b_Md_redo 65 = .ok (.getfield 31, 3) := by decide +kernel
theorem d_Md_redo_68 : decode b_Md_redo 68 = .ok (.iconst 4, 1) := by decide +kernel
theorem d_Md_redo_69 : decode b_Md_redo 69 = .ok (.iload_n 3, 1) := by decide +kernel
theorem d_Md_redo_70 : decode b_Md_redo 70 = .ok (.imul, 1) := by decide +kernel
theorem d_Md_redo_71 : decode b_Md_redo 71 = .ok (.iconst 3, 1) := by decide +kernel
theorem d_Md_redo_72 : decode b_Md_redo 72 = .ok (.iadd, 1) := by decide +kernel
theorem d_Md_redo_73 : decode b_Md_redo 73 = .ok (.iaload, 1) := by decide +kernel
theorem d_Md_redo_74 : decode b_Md_redo 74 = .ok (.iload_n 2, 1) := by decide +kernel
theorem d_Md_redo_75 : decode b_Md_redo 75 = .ok (.if_icmp .ge 16, 3) := by decide +kernel
theorem d_Md_redo_78 : decode b_Md_redo 78 = .ok (.aload_n 0, 1) := by decide +kernel
theorem d_Md_redo_79 : decode b_Md_redo 79 = .ok (.getfield 31, 3) := by decide +kernel
theorem d_Md_redo_82 : decode b_Md_redo 82 = .ok (.iconst 4, 1) := by decide +kernel
theorem d_Md_redo_83 : decode b_Md_redo 83 = .ok (.iload_n 3, 1) := by decide +kernel
theorem d_Md_redo_84 : decode b_Md_redo 84 = .ok (.imul, 1) := by decide +kernel
theorem d_Md_redo_85 : decode b_Md_redo 85 = .ok (.iconst 3, 1) := by decide +kernel
theorem d_Md_redo_86 : decode b_Md_redo 86 = .ok (.iadd, 1) := by decide +kernel
theorem d_Md_redo_87 : decode b_Md_redo 87 = .ok (.iaload, 1) := by decide +kernel
theorem d_Md_redo_88 : decode b_Md_redo 88 = .ok (.goto 4, 3) := by decide +kernel
theorem d_Md_redo_91 : decode b_Md_redo 91 = .ok (.iload_n 2, 1) := by decide +kernel
theorem d_Md_redo_92 : decode b_Md_redo 92 = .ok (.istore_n 2, 1) := by decide +kernel
theorem d_Md_redo_93 : decode b_Md_redo 93 = .ok (.iinc 3 1, 3) := by decide +kernel
theorem d_Md_redo_96 : decode b_Md_redo 96 = .ok (.goto (-52), 3) := by decide +kernel
theorem d_Md_redo_99 : decode b_Md_redo 99 = .ok (.iload_n 2, 1) := by decide +kernel
theorem d_Md_redo_100 : decode b_Md_redo 100 = .ok (.ireturn, 1) := by decide +kernel
set_option maxHeartbeats 4000000 in
set_option maxRecDepth 100000 in
theorem c_Md_redo (l : Launch) (dC : Nat → ClassId) (dI : Nat → Nat → Nat) (ad : Nat → Nat) (cA : ClassId) (sz : Nat) (N : Nat) (a1 : Int32) (u : Mem) (r : Int32) (w : Mem) (h : f_Md_redo N a1 u = some (r, w)) : CtI l y_Md_redo (Cond.code y_Md_redo b_Md_redo 4 (some .int) :: lw_gd) 1 22 (dC, dI) cA [.ref (ad 15), .int a1] (wA ad cA) u sz (fun v w1 => v = r ∧ w1 = w) := by
  refine v_metI (own := R_Md) [some (.ref (ad 15)), some (.int a1), none, none] rfl (by decide) (Nat.le_of_ble_eq_true rfl) rfl rfl (fun v u h => rfl) ?_
  intro p e s m args below meth c A Q ret
  unfold f_Md_redo at h
  refine v_iload_n d_Md_redo_0 rfl rfl ?_
  refine v_iconst 0 d_Md_redo_1 (by decide) rfl ?_
  refine v_iconst 2 d_Md_redo_2 (by decide) rfl ?_
  obtain ⟨y1, u2, hc3, h⟩ := bd_inv h
  refine vc_Md_Md_within hc3 (Nat.le_of_ble_eq_true rfl) (Nat.le_of_ble_eq_true rfl) (Nat.le_of_ble_eq_true rfl) d_Md_redo_3 rfl ?_
  refine v_if_ne 11 d_Md_redo_6 (by decide) rfl (fun c24 => ?_) (fun c24 => ?_)
  · replace h := (if_pos c24).symm.trans h
    refine v_iconst (-1) d_Md_redo_9 (by decide) rfl ?_
    obtain ⟨e1, e2⟩ := rt_inv h
    exact ret _ _ _ _ ⟨e1, e2⟩ d_Md_redo_10
  · replace h := (if_neg c24).symm.trans h
    refine v_aload_n d_Md_redo_11 rfl rfl ?_
    refine vg_Md_last d_Md_redo_12 rfl ?_
    refine v_iload_n d_Md_redo_15 rfl rfl ?_
    obtain ⟨g4, h⟩ := gd_inv h
    refine v_ald 21 (wA_21 ad cA _) d_Md_redo_16 g4 rfl ?_
    refine v_aload_n d_Md_redo_17 rfl rfl ?_
    refine vg_Md_low d_Md_redo_18 rfl ?_
    refine v_iload_n d_Md_redo_21 rfl rfl ?_
    obtain ⟨g5, h⟩ := gd_inv h
    refine v_ald 22 (wA_22 ad cA _) d_Md_redo_22 g5 rfl ?_
    obtain ⟨J41, eJ41, h⟩ := jn_inv h
    have V41 : ∀ (x6 s7 : Int32) (u8 : Mem), J41 x6 s7 u8 = some (r, w) → VJ p l e 1 0 0 22 s m args below meth c 0 0 Q A b_Md_redo 4 R_Md (dC, dI) cA (wA ad cA) 41 [some (.ref (ad 15)), some (.int x6), none, none] [.int s7] u8 := by
      intro x6 s7 u8 h
      rw [eJ41] at h
      refine v_istore_n (lo' := [_, _, _, none]) d_Md_redo_41 rfl (by decide) rfl ?_
      refine v_iconst 0 d_Md_redo_42 (by decide) rfl ?_
      refine v_istore_n (lo' := [_, _, _, _]) d_Md_redo_43 rfl (by decide) rfl ?_
      have L44 : ∀ (κ : Int32 → Mem → Rs), (∀ (x19 : Int32) (u20 : Mem), κ x19 u20 = some (r, w) → VJ p l e 1 0 0 22 s m args below meth c 0 0 Q A b_Md_redo 4 R_Md (dC, dI) cA (wA ad cA) 99 [none, none, some (.int x19), none] [] u20) → ∀ (n : Nat) (x9 x10 x11 : Int32) (u12 : Mem), k_Md_redo_44 N κ n x9 x10 x11 u12 = some (r, w) → VJ p l e 1 0 0 22 s m args below meth c 0 0 Q A b_Md_redo 4 R_Md (dC, dI) cA (wA ad cA) 44 [some (.ref (ad 15)), some (.int x9), some (.int x10), some (.int x11)] [] u12 := by
        intro κ hκ n
        induction n with
        | zero =>
          intro x9 x10 x11 u12 h
          exact no_ns h
        | succ n ih =>
          intro x9 x10 x11 u12 h
          unfold k_Md_redo_44 at h
          refine v_iload_n d_Md_redo_44 rfl rfl ?_
          refine v_aload_n d_Md_redo_45 rfl rfl ?_
          refine vg_Md_sent d_Md_redo_46 rfl ?_
          refine v_icmp_ge 99 d_Md_redo_49 (by decide) rfl (fun c18 => ?_) (fun c18 => ?_)
          · replace h := (if_pos c18).symm.trans h
            refine v_drop 0 (lo' := [none, _, _, _]) rfl ?_
            refine v_drop 1 (lo' := [none, none, _, _]) rfl ?_
            refine v_drop 3 (lo' := [none, none, _, none]) rfl ?_
            exact hκ _ _ h
          · replace h := (if_neg c18).symm.trans h
            refine v_aload_n d_Md_redo_52 rfl rfl ?_
            refine vg_Md_post d_Md_redo_53 rfl ?_
            refine v_iconst 4 d_Md_redo_56 (by decide) rfl ?_
            refine v_iload_n d_Md_redo_57 rfl rfl ?_
            refine v_imul d_Md_redo_58 rfl ?_
            obtain ⟨g13, h⟩ := gd_inv h
            refine v_ald 23 (wA_23 ad cA _) d_Md_redo_59 g13 rfl ?_
            refine v_iload_n d_Md_redo_60 rfl rfl ?_
            refine v_icmp_ne 91 d_Md_redo_61 (by decide) rfl (fun c17 => ?_) (fun c17 => ?_)
            · replace h := (if_pos c17).symm.trans h
              refine v_aload_n d_Md_redo_64 rfl rfl ?_
              refine vg_Md_post d_Md_redo_65 rfl ?_
              refine v_iconst 4 d_Md_redo_68 (by decide) rfl ?_
              refine v_iload_n d_Md_redo_69 rfl rfl ?_
              refine v_imul d_Md_redo_70 rfl ?_
              refine v_iconst 3 d_Md_redo_71 (by decide) rfl ?_
              refine v_iadd d_Md_redo_72 rfl ?_
              obtain ⟨g14, h⟩ := gd_inv h
              refine v_ald 23 (wA_23 ad cA _) d_Md_redo_73 g14 rfl ?_
              refine v_iload_n d_Md_redo_74 rfl rfl ?_
              refine v_icmp_ge 91 d_Md_redo_75 (by decide) rfl (fun c16 => ?_) (fun c16 => ?_)
              · replace h := (if_pos c16).symm.trans h
                refine v_iload_n d_Md_redo_91 rfl rfl ?_
                refine v_istore_n (lo' := [_, _, _, _]) d_Md_redo_92 rfl (by decide) rfl ?_
                refine v_iinc (lo' := [_, _, _, _]) 1 d_Md_redo_93 (by decide) rfl rfl (by decide) rfl ?_
                refine v_goto 44 d_Md_redo_96 (by decide) ?_
                exact ih _ _ _ _ h
              · replace h := (if_neg c16).symm.trans h
                refine v_aload_n d_Md_redo_78 rfl rfl ?_
                refine vg_Md_post d_Md_redo_79 rfl ?_
                refine v_iconst 4 d_Md_redo_82 (by decide) rfl ?_
                refine v_iload_n d_Md_redo_83 rfl rfl ?_
                refine v_imul d_Md_redo_84 rfl ?_
                refine v_iconst 3 d_Md_redo_85 (by decide) rfl ?_
                refine v_iadd d_Md_redo_86 rfl ?_
                obtain ⟨g15, h⟩ := gd_inv h
                refine v_ald 23 (wA_23 ad cA _) d_Md_redo_87 g15 rfl ?_
                refine v_goto 92 d_Md_redo_88 (by decide) ?_
                refine v_istore_n (lo' := [_, _, _, _]) d_Md_redo_92 rfl (by decide) rfl ?_
                refine v_iinc (lo' := [_, _, _, _]) 1 d_Md_redo_93 (by decide) rfl rfl (by decide) rfl ?_
                refine v_goto 44 d_Md_redo_96 (by decide) ?_
                exact ih _ _ _ _ h
            · replace h := (if_neg c17).symm.trans h
              refine v_iload_n d_Md_redo_91 rfl rfl ?_
              refine v_istore_n (lo' := [_, _, _, _]) d_Md_redo_92 rfl (by decide) rfl ?_
              refine v_iinc (lo' := [_, _, _, _]) 1 d_Md_redo_93 (by decide) rfl rfl (by decide) rfl ?_
              refine v_goto 44 d_Md_redo_96 (by decide) ?_
              exact ih _ _ _ _ h
      refine L44 _ (fun x19 u20 h => ?_) N _ _ _ _ h
      refine v_iload_n d_Md_redo_99 rfl rfl ?_
      obtain ⟨e1, e2⟩ := rt_inv h
      exact ret _ _ _ _ ⟨e1, e2⟩ d_Md_redo_100
    clear eJ41
    refine v_icmp_ge 35 d_Md_redo_23 (by decide) rfl (fun c23 => ?_) (fun c23 => ?_)
    · replace h := (if_pos c23).symm.trans h
      refine v_aload_n d_Md_redo_35 rfl rfl ?_
      refine vg_Md_low d_Md_redo_36 rfl ?_
      refine v_iload_n d_Md_redo_39 rfl rfl ?_
      obtain ⟨g21, h⟩ := gd_inv h
      refine v_ald 22 (wA_22 ad cA _) d_Md_redo_40 g21 rfl ?_
      exact V41 _ _ _ h
    · replace h := (if_neg c23).symm.trans h
      refine v_aload_n d_Md_redo_26 rfl rfl ?_
      refine vg_Md_last d_Md_redo_27 rfl ?_
      refine v_iload_n d_Md_redo_30 rfl rfl ?_
      obtain ⟨g22, h⟩ := gd_inv h
      refine v_ald 21 (wA_21 ad cA _) d_Md_redo_31 g22 rfl ?_
      refine v_goto 41 d_Md_redo_32 (by decide) ?_
      exact V41 _ _ _ h
theorem vc_La_Md_redo {p : Program} {l : Launch} {e : Env} {fr rc rs rl : Nat} {s : State} {m : MethodId} {args : Array Value} {below : List Frame} {meth : Method} {c : Code} {cells slots : Nat} {Q : State → Prop} {A : Nat → Prop} {cc : ByteArray} {nL : Nat} {dC : Nat → ClassId} {dI : Nat → Nat → Nat} {cA : ClassId} {ad : Nat → Nat} {pc q : Nat} {lo : List (Option Value)} {rest : List Value} {u w : Mem} {r : Int32} {N : Nat} {b0 : Int32} (h : f_Md_redo N b0 u = some (r, w)) (hfr : 1 + 1 ≤ fr) (hrl : 8 + (4 + 11) + 22 ≤ rl) (hrm : (rest.map fun v => v.category).sum ≤ 8) (hd : decode cc pc = .ok (.invokevirtual 88, 3)) (hq : pc + 3 = q) (k : VJ p l e fr rc rs rl s m args below meth c cells slots Q A cc nL R_La (dC, dI) cA (wA ad cA) q lo (.int r :: rest) w) : VJ p l e fr rc rs rl s m args below meth c cells slots Q A cc nL R_La (dC, dI) cA (wA ad cA) pc lo (.int b0 :: .ref (ad 15) :: rest) u :=
  v_callVI (As := [.int b0]) (rest := rest) (fun sz => c_Md_redo l dC dI ad cA sz N b0 u r w h) tw_501 tw_502 tw_503 15 (wA_15 ad cA u) rfl rfl tw_504 tw_28 1 rfl (by decide +kernel) hfr hrl rfl hrm hd hq (fun v w1 hE => by obtain ⟨rfl, rfl⟩ := hE; exact k)
theorem vc_Md_Md_redo {p : Program} {l : Launch} {e : Env} {fr rc rs rl : Nat} {s : State} {m : MethodId} {args : Array Value} {below : List Frame} {meth : Method} {c : Code} {cells slots : Nat} {Q : State → Prop} {A : Nat → Prop} {cc : ByteArray} {nL : Nat} {dC : Nat → ClassId} {dI : Nat → Nat → Nat} {cA : ClassId} {ad : Nat → Nat} {pc q : Nat} {lo : List (Option Value)} {rest : List Value} {u w : Mem} {r : Int32} {N : Nat} {b0 : Int32} (h : f_Md_redo N b0 u = some (r, w)) (hfr : 1 + 1 ≤ fr) (hrl : 8 + (4 + 11) + 22 ≤ rl) (hrm : (rest.map fun v => v.category).sum ≤ 8) (hd : decode cc pc = .ok (.invokevirtual 90, 3)) (hq : pc + 3 = q) (k : VJ p l e fr rc rs rl s m args below meth c cells slots Q A cc nL R_Md (dC, dI) cA (wA ad cA) q lo (.int r :: rest) w) : VJ p l e fr rc rs rl s m args below meth c cells slots Q A cc nL R_Md (dC, dI) cA (wA ad cA) pc lo (.int b0 :: .ref (ad 15) :: rest) u :=
  v_callVI (As := [.int b0]) (rest := rest) (fun sz => c_Md_redo l dC dI ad cA sz N b0 u r w h) tw_509 tw_502 tw_503 15 (wA_15 ad cA u) rfl rfl tw_504 tw_28 1 rfl (by decide +kernel) hfr hrl rfl hrm hd hq (fun v w1 hE => by obtain ⟨rfl, rfl⟩ := hE; exact k)
theorem d_Md_round_0 : decode b_Md_round 0 = .ok (.aload_n 0, 1) := by decide +kernel
theorem d_Md_round_1 : decode b_Md_round 1 = .ok (.iconst 0, 1) := by decide +kernel
theorem d_Md_round_2 : decode b_Md_round 2 = .ok (.invokevirtual 90, 3) := by decide +kernel
theorem d_Md_round_5 : decode b_Md_round 5 = .ok (.istore_n 1, 1) := by decide +kernel
theorem d_Md_round_6 : decode b_Md_round 6 = .ok (.aload_n 0, 1) := by decide +kernel
theorem d_Md_round_7 : decode b_Md_round 7 = .ok (.iconst 1, 1) := by decide +kernel
theorem d_Md_round_8 : decode b_Md_round 8 = .ok (.invokevirtual 90, 3) := by decide +kernel
theorem d_Md_round_11 : decode b_Md_round 11 = .ok (.iload_n 1, 1) := by decide +kernel
theorem d_Md_round_12 : decode b_Md_round 12 = .ok (.if_icmp .ge 11, 3) := by decide +kernel
theorem d_Md_round_15 : decode b_Md_round 15 = .ok (.aload_n 0, 1) := by decide +kernel
theorem d_Md_round_16 : decode b_Md_round 16 = .ok (.iconst 1, 1) := by decide +kernel
theorem d_Md_round_17 : decode b_Md_round 17 = .ok (.invokevirtual 90, 3) := by decide +kernel
theorem d_Md_round_20 : decode b_Md_round 20 = .ok (.goto 4, 3) := by decide +kernel
theorem d_Md_round_23 : decode b_Md_round 23 = .ok (.iload_n 1, 1) := by decide +kernel
theorem d_Md_round_24 : decode b_Md_round 24 = .ok (.istore_n 1, 1) := by decide +kernel
theorem d_Md_round_25 : decode b_Md_round 25 = .ok (.aload_n 0, 1) := by decide +kernel
theorem d_Md_round_26 : decode b_Md_round 26 = .ok (.iconst 2, 1) := by decide +kernel
theorem d_Md_round_27 : decode b_Md_round 27 = .ok (.invokevirtual 90, 3) := by decide +kernel
theorem d_Md_round_30 : decode b_Md_round 30 = .ok (.iload_n 1, 1) := by decide +kernel
theorem d_Md_round_31 : decode b_Md_round 31 = .ok (.if_icmp .ge 11, 3) := by decide +kernel
theorem d_Md_round_34 : decode b_Md_round 34 = .ok (.aload_n 0, 1) := by decide +kernel
theorem d_Md_round_35 : decode b_Md_round 35 = .ok (.iconst 2, 1) := by decide +kernel
theorem d_Md_round_36 : decode b_Md_round 36 = .ok (.invokevirtual 90, 3) := by decide +kernel
theorem d_Md_round_39 : decode b_Md_round 39 = .ok (.goto 4, 3) := by decide +kernel
theorem d_Md_round_42 : decode b_Md_round 42 = .ok (.iload_n 1, 1) := by decide +kernel
theorem d_Md_round_43 : decode b_Md_round 43 = .ok (.istore_n 1, 1) := by decide +kernel
theorem d_Md_round_44 : decode b_Md_round 44 = .ok (.aload_n 0, 1) := by decide +kernel
theorem d_Md_round_45 : decode b_Md_round 45 = .ok (.iload_n 1, 1) := by decide +kernel
theorem d_Md_round_46 : decode b_Md_round 46 = .ok (.aload_n 0, 1) := by decide +kernel
theorem d_Md_round_47 : decode b_Md_round 47 = .ok (.getfield 57, 3) := by decide +kernel
theorem d_Md_round_50 : decode b_Md_round 50 = .ok (.if_icmp .le 7, 3) := by decide +kernel
theorem d_Md_round_53 : decode b_Md_round 53 = .ok (.iload_n 1, 1) := by decide +kernel
theorem d_Md_round_54 : decode b_Md_round 54 = .ok (.goto 7, 3) := by decide +kernel
theorem d_Md_round_57 : decode b_Md_round 57 = .ok (.aload_n 0, 1) := by decide +kernel
theorem d_Md_round_58 : decode b_Md_round 58 = .ok (.getfield 57, 3) := by decide +kernel
theorem d_Md_round_61 : decode b_Md_round 61 = .ok (.putfield 57, 3) := by decide +kernel
theorem d_Md_round_64 : decode b_Md_round 64 = .ok (.iconst 0, 1) := by decide +kernel
theorem d_Md_round_65 : decode b_Md_round 65 = .ok (.istore_n 2, 1) := by decide +kernel
theorem d_Md_round_66 : decode b_Md_round 66 = .ok (.iconst 1, 1) := by decide +kernel
theorem d_Md_round_67 : decode b_Md_round 67 = .ok (.istore_n 3, 1) := by decide +kernel
theorem d_Md_round_68 : decode b_Md_round 68 = .ok (.iload_n 3, 1) := by decide +kernel
theorem d_Md_round_69 : decode b_Md_round 69 = .ok (.aload_n 0, 1) := by decide +kernel
theorem d_Md_round_70 : decode b_Md_round 70 = .ok (.getfield 42, 3) := by decide +kernel
theorem d_Md_round_73 : decode b_Md_round 73 = .ok (.if_icmp .gt 50, 3) := by decide +kernel
theorem d_Md_round_76 : decode b_Md_round 76 = .ok (.aload_n 0, 1) := by decide +kernel
theorem d_Md_round_77 : decode b_Md_round 77 = .ok (.getfield 7, 3) := by decide +kernel
theorem d_Md_round_80 : decode b_Md_round 80 = .ok (.iload_n 3, 1) := by decide +kernel
theorem d_Md_round_81 : decode b_Md_round 81 = .ok (.iaload, 1) := by decide +kernel
theorem d_Md_round_82 : decode b_Md_round 82 = .ok (.ifCond .lt 35, 3) := by decide +kernel
theorem d_Md_round_85 : decode b_Md_round 85 = .ok (.aload_n 0, 1) := by decide +kernel
theorem d_Md_round_86 : decode b_Md_round 86 = .ok (.getfield 13, 3) := by decide +kernel
theorem d_Md_round_89 : decode b_Md_round 89 = .ok (.iload_n 3, 1) := by decide +kernel
theorem d_Md_round_90 : decode b_Md_round 90 = .ok (.iaload, 1) := by decide +kernel
theorem d_Md_round_91 : decode b_Md_round 91 = .ok (.ifCond .lt 26, 3) := by decide +kernel
theorem d_Md_round_94 : decode b_Md_round 94 = .ok (.aload_n 0, 1) := by decide +kernel
theorem d_Md_round_95 : decode b_Md_round 95 = .ok (.getfield 13, 3) := by decide +kernel
theorem d_Md_round_98 : decode b_Md_round 98 = .ok (.iload_n 3, 1) := by decide +kernel
theorem d_Md_round_99 : decode b_Md_round 99 = .ok (.iaload, 1) := by decide +kernel
theorem d_Md_round_100 : decode b_Md_round 100 = .ok (.aload_n 0, 1) := by decide +kernel
theorem d_Md_round_101 : decode b_Md_round 101 = .ok (.getfield 57, 3) := by decide +kernel
theorem d_Md_round_104 : decode b_Md_round 104 = .ok (.if_icmp .ge 13, 3) := by decide +kernel
theorem d_Md_round_107 : decode b_Md_round 107 = .ok (.aload_n 0, 1) := by decide +kernel
theorem d_Md_round_108 : decode b_Md_round 108 = .ok (.getfield 13, 3) := by decide +kernel
theorem d_Md_round_111 : decode b_Md_round 111 = .ok (.iload_n 3, 1) := by decide +kernel
theorem d_Md_round_112 : decode b_Md_round 112 = .ok (.iconst (-1), 1) := by decide +kernel
theorem d_Md_round_113 : decode b_Md_round 113 = .ok (.iastore, 1) := by decide +kernel
theorem d_Md_round_114 : decode b_Md_round 114 = .ok (.iinc 2 1, 3) := by decide +kernel
theorem d_Md_round_117 : decode b_Md_round 117 = .ok (.iinc 3 1, 3) := by decide +kernel
theorem d_Md_round_120 : decode b_Md_round 120 = .ok (.goto (-52), 3) := by decide +kernel
theorem d_Md_round_123 : decode b_Md_round 123 = .ok (.iload_n 2, 1) := by decide +kernel
theorem d_Md_round_124 : decode b_Md_round 124 = .ok (.ireturn, 1) := by decide +kernel
set_option maxHeartbeats 4000000 in
set_option maxRecDepth 100000 in
theorem c_Md_round (l : Launch) (dC : Nat → ClassId) (dI : Nat → Nat → Nat) (ad : Nat → Nat) (cA : ClassId) (sz : Nat) (N : Nat) (u : Mem) (r : Int32) (w : Mem) (h : f_Md_round N u = some (r, w)) : CtI l y_Md_round (Cond.code y_Md_round b_Md_round 4 (some .int) :: lw_gd) 2 45 (dC, dI) cA [.ref (ad 15)] (wA ad cA) u sz (fun v w1 => v = r ∧ w1 = w) := by
  refine v_metI (own := R_Md) [some (.ref (ad 15)), none, none, none] rfl (by decide) (Nat.le_of_ble_eq_true rfl) rfl rfl (fun v u h => rfl) ?_
  intro p e s m args below meth c A Q ret
  unfold f_Md_round at h
  refine v_aload_n d_Md_round_0 rfl rfl ?_
  refine v_iconst 0 d_Md_round_1 (by decide) rfl ?_
  obtain ⟨y1, u2, hc3, h⟩ := bd_inv h
  refine vc_Md_Md_redo hc3 (Nat.le_of_ble_eq_true rfl) (Nat.le_of_ble_eq_true rfl) (Nat.le_of_ble_eq_true rfl) d_Md_round_2 rfl ?_
  refine v_istore_n (lo' := [_, _, none, none]) d_Md_round_5 rfl (by decide) rfl ?_
  refine v_aload_n d_Md_round_6 rfl rfl ?_
  refine v_iconst 1 d_Md_round_7 (by decide) rfl ?_
  obtain ⟨y4, u5, hc6, h⟩ := bd_inv h
  refine vc_Md_Md_redo hc6 (Nat.le_of_ble_eq_true rfl) (Nat.le_of_ble_eq_true rfl) (Nat.le_of_ble_eq_true rfl) d_Md_round_8 rfl ?_
  refine v_iload_n d_Md_round_11 rfl rfl ?_
  obtain ⟨J24, eJ24, h⟩ := jn_inv h
  have V24 : ∀ (s7 : Int32) (u8 : Mem), J24 s7 u8 = some (r, w) → VJ p l e 2 0 0 45 s m args below meth c 0 0 Q A b_Md_round 4 R_Md (dC, dI) cA (wA ad cA) 24 [some (.ref (ad 15)), none, none, none] [.int s7] u8 := by
    intro s7 u8 h
    rw [eJ24] at h
    refine v_istore_n (lo' := [_, _, none, none]) d_Md_round_24 rfl (by decide) rfl ?_
    refine v_aload_n d_Md_round_25 rfl rfl ?_
    refine v_iconst 2 d_Md_round_26 (by decide) rfl ?_
    obtain ⟨y9, u10, hc11, h⟩ := bd_inv h
    refine vc_Md_Md_redo hc11 (Nat.le_of_ble_eq_true rfl) (Nat.le_of_ble_eq_true rfl) (Nat.le_of_ble_eq_true rfl) d_Md_round_27 rfl ?_
    refine v_iload_n d_Md_round_30 rfl rfl ?_
    obtain ⟨J43, eJ43, h⟩ := jn_inv h
    have V43 : ∀ (s12 : Int32) (u13 : Mem), J43 s12 u13 = some (r, w) → VJ p l e 2 0 0 45 s m args below meth c 0 0 Q A b_Md_round 4 R_Md (dC, dI) cA (wA ad cA) 43 [some (.ref (ad 15)), none, none, none] [.int s12] u13 := by
      intro s12 u13 h
      rw [eJ43] at h
      refine v_istore_n (lo' := [_, _, none, none]) d_Md_round_43 rfl (by decide) rfl ?_
      refine v_aload_n d_Md_round_44 rfl rfl ?_
      refine v_iload_n d_Md_round_45 rfl rfl ?_
      refine v_aload_n d_Md_round_46 rfl rfl ?_
      refine vg_Md_limit d_Md_round_47 rfl ?_
      obtain ⟨J61, eJ61, h⟩ := jn_inv h
      have V61 : ∀ (s14 : Int32) (u15 : Mem), J61 s14 u15 = some (r, w) → VJ p l e 2 0 0 45 s m args below meth c 0 0 Q A b_Md_round 4 R_Md (dC, dI) cA (wA ad cA) 61 [some (.ref (ad 15)), none, none, none] [.int s14, .ref (ad 15)] u15 := by
        intro s14 u15 h
        rw [eJ61] at h
        obtain ⟨u16, eu16, h⟩ := jn_inv h
        refine vp_Md_limit eu16 d_Md_round_61 rfl ?_
        refine v_iconst 0 d_Md_round_64 (by decide) rfl ?_
        refine v_istore_n (lo' := [_, none, _, none]) d_Md_round_65 rfl (by decide) rfl ?_
        refine v_iconst 1 d_Md_round_66 (by decide) rfl ?_
        refine v_istore_n (lo' := [_, none, _, _]) d_Md_round_67 rfl (by decide) rfl ?_
        have L68 : ∀ (κ : Int32 → Mem → Rs), (∀ (x29 : Int32) (u30 : Mem), κ x29 u30 = some (r, w) → VJ p l e 2 0 0 45 s m args below meth c 0 0 Q A b_Md_round 4 R_Md (dC, dI) cA (wA ad cA) 123 [none, none, some (.int x29), none] [] u30) → ∀ (n : Nat) (x17 x18 : Int32) (u19 : Mem), k_Md_round_68 N κ n x17 x18 u19 = some (r, w) → VJ p l e 2 0 0 45 s m args below meth c 0 0 Q A b_Md_round 4 R_Md (dC, dI) cA (wA ad cA) 68 [some (.ref (ad 15)), none, some (.int x17), some (.int x18)] [] u19 := by
          intro κ hκ n
          induction n with
          | zero =>
            intro x17 x18 u19 h
            exact no_ns h
          | succ n ih =>
            intro x17 x18 u19 h
            unfold k_Md_round_68 at h
            refine v_iload_n d_Md_round_68 rfl rfl ?_
            refine v_aload_n d_Md_round_69 rfl rfl ?_
            refine vg_Md_made d_Md_round_70 rfl ?_
            refine v_icmp_gt 123 d_Md_round_73 (by decide) rfl (fun c28 => ?_) (fun c28 => ?_)
            · replace h := (if_pos c28).symm.trans h
              refine v_drop 0 (lo' := [none, none, _, _]) rfl ?_
              refine v_drop 3 (lo' := [none, none, _, none]) rfl ?_
              exact hκ _ _ h
            · replace h := (if_neg c28).symm.trans h
              refine v_aload_n d_Md_round_76 rfl rfl ?_
              refine vg_Md_ownerOf d_Md_round_77 rfl ?_
              refine v_iload_n d_Md_round_80 rfl rfl ?_
              obtain ⟨g20, h⟩ := gd_inv h
              refine v_ald 16 (wA_16 ad cA _) d_Md_round_81 g20 rfl ?_
              refine v_if_lt 117 d_Md_round_82 (by decide) rfl (fun c27 => ?_) (fun c27 => ?_)
              · replace h := (if_pos c27).symm.trans h
                refine v_iinc (lo' := [_, none, _, _]) 1 d_Md_round_117 (by decide) rfl rfl (by decide) rfl ?_
                refine v_goto 68 d_Md_round_120 (by decide) ?_
                exact ih _ _ _ h
              · replace h := (if_neg c27).symm.trans h
                refine v_aload_n d_Md_round_85 rfl rfl ?_
                refine vg_Md_entryOf d_Md_round_86 rfl ?_
                refine v_iload_n d_Md_round_89 rfl rfl ?_
                obtain ⟨g21, h⟩ := gd_inv h
                refine v_ald 17 (wA_17 ad cA _) d_Md_round_90 g21 rfl ?_
                refine v_if_lt 117 d_Md_round_91 (by decide) rfl (fun c26 => ?_) (fun c26 => ?_)
                · replace h := (if_pos c26).symm.trans h
                  refine v_iinc (lo' := [_, none, _, _]) 1 d_Md_round_117 (by decide) rfl rfl (by decide) rfl ?_
                  refine v_goto 68 d_Md_round_120 (by decide) ?_
                  exact ih _ _ _ h
                · replace h := (if_neg c26).symm.trans h
                  refine v_aload_n d_Md_round_94 rfl rfl ?_
                  refine vg_Md_entryOf d_Md_round_95 rfl ?_
                  refine v_iload_n d_Md_round_98 rfl rfl ?_
                  obtain ⟨g22, h⟩ := gd_inv h
                  refine v_ald 17 (wA_17 ad cA _) d_Md_round_99 g22 rfl ?_
                  refine v_aload_n d_Md_round_100 rfl rfl ?_
                  refine vg_Md_limit d_Md_round_101 rfl ?_
                  refine v_icmp_ge 117 d_Md_round_104 (by decide) rfl (fun c25 => ?_) (fun c25 => ?_)
                  · replace h := (if_pos c25).symm.trans h
                    refine v_iinc (lo' := [_, none, _, _]) 1 d_Md_round_117 (by decide) rfl rfl (by decide) rfl ?_
                    refine v_goto 68 d_Md_round_120 (by decide) ?_
                    exact ih _ _ _ h
                  · replace h := (if_neg c25).symm.trans h
                    refine v_aload_n d_Md_round_107 rfl rfl ?_
                    refine vg_Md_entryOf d_Md_round_108 rfl ?_
                    refine v_iload_n d_Md_round_111 rfl rfl ?_
                    refine v_iconst (-1) d_Md_round_112 (by decide) rfl ?_
                    obtain ⟨g23, h⟩ := gd_inv h
                    obtain ⟨u24, eu24, h⟩ := jn_inv h
                    refine v_ast 17 (wA_17 ad cA _) (ws_17 ad cA _ _ _) eu24 d_Md_round_113 g23 rfl ?_
                    refine v_iinc (lo' := [_, none, _, _]) 1 d_Md_round_114 (by decide) rfl rfl (by decide) rfl ?_
                    refine v_iinc (lo' := [_, none, _, _]) 1 d_Md_round_117 (by decide) rfl rfl (by decide) rfl ?_
                    refine v_goto 68 d_Md_round_120 (by decide) ?_
                    exact ih _ _ _ h
        refine L68 _ (fun x29 u30 h => ?_) N _ _ _ h
        refine v_iload_n d_Md_round_123 rfl rfl ?_
        obtain ⟨e1, e2⟩ := rt_inv h
        exact ret _ _ _ _ ⟨e1, e2⟩ d_Md_round_124
      clear eJ61
      refine v_icmp_le 57 d_Md_round_50 (by decide) rfl (fun c31 => ?_) (fun c31 => ?_)
      · replace h := (if_pos c31).symm.trans h
        refine v_aload_n d_Md_round_57 rfl rfl ?_
        refine vg_Md_limit d_Md_round_58 rfl ?_
        refine v_drop 1 (lo' := [_, none, none, none]) rfl ?_
        exact V61 _ _ h
      · replace h := (if_neg c31).symm.trans h
        refine v_iload_n d_Md_round_53 rfl rfl ?_
        refine v_goto 61 d_Md_round_54 (by decide) ?_
        refine v_drop 1 (lo' := [_, none, none, none]) rfl ?_
        exact V61 _ _ h
    clear eJ43
    refine v_icmp_ge 42 d_Md_round_31 (by decide) rfl (fun c35 => ?_) (fun c35 => ?_)
    · replace h := (if_pos c35).symm.trans h
      refine v_iload_n d_Md_round_42 rfl rfl ?_
      refine v_drop 1 (lo' := [_, none, none, none]) rfl ?_
      exact V43 _ _ h
    · replace h := (if_neg c35).symm.trans h
      refine v_aload_n d_Md_round_34 rfl rfl ?_
      refine v_iconst 2 d_Md_round_35 (by decide) rfl ?_
      obtain ⟨y32, u33, hc34, h⟩ := bd_inv h
      refine vc_Md_Md_redo hc34 (Nat.le_of_ble_eq_true rfl) (Nat.le_of_ble_eq_true rfl) (Nat.le_of_ble_eq_true rfl) d_Md_round_36 rfl ?_
      refine v_goto 43 d_Md_round_39 (by decide) ?_
      refine v_drop 1 (lo' := [_, none, none, none]) rfl ?_
      exact V43 _ _ h
  clear eJ24
  refine v_icmp_ge 23 d_Md_round_12 (by decide) rfl (fun c39 => ?_) (fun c39 => ?_)
  · replace h := (if_pos c39).symm.trans h
    refine v_iload_n d_Md_round_23 rfl rfl ?_
    refine v_drop 1 (lo' := [_, none, none, none]) rfl ?_
    exact V24 _ _ h
  · replace h := (if_neg c39).symm.trans h
    refine v_aload_n d_Md_round_15 rfl rfl ?_
    refine v_iconst 1 d_Md_round_16 (by decide) rfl ?_
    obtain ⟨y36, u37, hc38, h⟩ := bd_inv h
    refine vc_Md_Md_redo hc38 (Nat.le_of_ble_eq_true rfl) (Nat.le_of_ble_eq_true rfl) (Nat.le_of_ble_eq_true rfl) d_Md_round_17 rfl ?_
    refine v_goto 24 d_Md_round_20 (by decide) ?_
    refine v_drop 1 (lo' := [_, none, none, none]) rfl ?_
    exact V24 _ _ h
theorem vc_La_Md_round {p : Program} {l : Launch} {e : Env} {fr rc rs rl : Nat} {s : State} {m : MethodId} {args : Array Value} {below : List Frame} {meth : Method} {c : Code} {cells slots : Nat} {Q : State → Prop} {A : Nat → Prop} {cc : ByteArray} {nL : Nat} {dC : Nat → ClassId} {dI : Nat → Nat → Nat} {cA : ClassId} {ad : Nat → Nat} {pc q : Nat} {lo : List (Option Value)} {rest : List Value} {u w : Mem} {r : Int32} {N : Nat} (h : f_Md_round N u = some (r, w)) (hfr : 2 + 1 ≤ fr) (hrl : 8 + (4 + 11) + 45 ≤ rl) (hrm : (rest.map fun v => v.category).sum ≤ 8) (hd : decode cc pc = .ok (.invokevirtual 51, 3)) (hq : pc + 3 = q) (k : VJ p l e fr rc rs rl s m args below meth c cells slots Q A cc nL R_La (dC, dI) cA (wA ad cA) q lo (.int r :: rest) w) : VJ p l e fr rc rs rl s m args below meth c cells slots Q A cc nL R_La (dC, dI) cA (wA ad cA) pc lo (.ref (ad 15) :: rest) u :=
  v_callVI (As := []) (rest := rest) (fun sz => c_Md_round l dC dI ad cA sz N u r w h) tw_505 tw_506 tw_507 15 (wA_15 ad cA u) rfl rfl tw_508 tw_28 0 rfl (by decide +kernel) hfr hrl rfl hrm hd hq (fun v w1 hE => by obtain ⟨rfl, rfl⟩ := hE; exact k)
theorem d_Md_root_0 : decode b_Md_root 0 = .ok (.iload_n 1, 1) := by decide +kernel
theorem d_Md_root_1 : decode b_Md_root 1 = .ok (.iload_n 2, 1) := by decide +kernel
theorem d_Md_root_2 : decode b_Md_root 2 = .ok (.invokestatic 60, 3) := by decide +kernel
theorem d_Md_root_5 : decode b_Md_root 5 = .ok (.ifCond .eq 16, 3) := by decide +kernel
theorem d_Md_root_8 : decode b_Md_root 8 = .ok (.aload_n 0, 1) := by decide +kernel
theorem d_Md_root_9 : decode b_Md_root 9 = .ok (.getfield 19, 3) := by decide +kernel
theorem d_Md_root_12 : decode b_Md_root 12 = .ok (.iconst 3, 1) := by decide +kernel
theorem d_Md_root_13 : decode b_Md_root 13 = .ok (.iload_n 1, 1) := by decide +kernel
theorem d_Md_root_14 : decode b_Md_root 14 = .ok (.imul, 1) := by decide +kernel
theorem d_Md_root_15 : decode b_Md_root 15 = .ok (.iload_n 2, 1) := by decide +kernel
theorem d_Md_root_16 : decode b_Md_root 16 = .ok (.iadd, 1) := by decide +kernel
theorem d_Md_root_17 : decode b_Md_root 17 = .ok (.iaload, 1) := by decide +kernel
theorem d_Md_root_18 : decode b_Md_root 18 = .ok (.goto 4, 3) := by decide +kernel
theorem d_Md_root_21 : decode b_Md_root 21 = .ok (.iconst (-1), 1) := by decide +kernel
theorem d_Md_root_22 : decode b_Md_root 22 = .ok (.ireturn, 1) := by decide +kernel
set_option maxHeartbeats 4000000 in
set_option maxRecDepth 100000 in
theorem c_Md_root (l : Launch) (dC : Nat → ClassId) (dI : Nat → Nat → Nat) (ad : Nat → Nat) (cA : ClassId) (sz : Nat) (N : Nat) (a1 a2 : Int32) (u : Mem) (r : Int32) (w : Mem) (h : f_Md_root N a1 a2 u = some (r, w)) : CtI l y_Md_root (Cond.code y_Md_root b_Md_root 3 (some .int) :: lw_gd) 2 43 (dC, dI) cA [.ref (ad 15), .int a1, .int a2] (wA ad cA) u sz (fun v w1 => v = r ∧ w1 = w) := by
  refine v_metI (own := R_Md) [some (.ref (ad 15)), some (.int a1), some (.int a2)] rfl (by decide) (Nat.le_of_ble_eq_true rfl) rfl rfl (fun v u h => rfl) ?_
  intro p e s m args below meth c A Q ret
  unfold f_Md_root at h
  refine v_iload_n d_Md_root_0 rfl rfl ?_
  refine v_iload_n d_Md_root_1 rfl rfl ?_
  obtain ⟨y1, u2, hc3, h⟩ := bd_inv h
  refine vc_Md_Md_isPlace hc3 (Nat.le_of_ble_eq_true rfl) (Nat.le_of_ble_eq_true rfl) (Nat.le_of_ble_eq_true rfl) d_Md_root_2 rfl ?_
  refine v_if_eq 21 d_Md_root_5 (by decide) rfl (fun c5 => ?_) (fun c5 => ?_)
  · replace h := (if_pos c5).symm.trans h
    refine v_iconst (-1) d_Md_root_21 (by decide) rfl ?_
    obtain ⟨e1, e2⟩ := rt_inv h
    exact ret _ _ _ _ ⟨e1, e2⟩ d_Md_root_22
  · replace h := (if_neg c5).symm.trans h
    refine v_aload_n d_Md_root_8 rfl rfl ?_
    refine vg_Md_rootOf d_Md_root_9 rfl ?_
    refine v_iconst 3 d_Md_root_12 (by decide) rfl ?_
    refine v_iload_n d_Md_root_13 rfl rfl ?_
    refine v_imul d_Md_root_14 rfl ?_
    refine v_iload_n d_Md_root_15 rfl rfl ?_
    refine v_iadd d_Md_root_16 rfl ?_
    obtain ⟨g4, h⟩ := gd_inv h
    refine v_ald 19 (wA_19 ad cA _) d_Md_root_17 g4 rfl ?_
    refine v_goto 22 d_Md_root_18 (by decide) ?_
    obtain ⟨e1, e2⟩ := rt_inv h
    exact ret _ _ _ _ ⟨e1, e2⟩ d_Md_root_22
theorem vc_La_Md_root {p : Program} {l : Launch} {e : Env} {fr rc rs rl : Nat} {s : State} {m : MethodId} {args : Array Value} {below : List Frame} {meth : Method} {c : Code} {cells slots : Nat} {Q : State → Prop} {A : Nat → Prop} {cc : ByteArray} {nL : Nat} {dC : Nat → ClassId} {dI : Nat → Nat → Nat} {cA : ClassId} {ad : Nat → Nat} {pc q : Nat} {lo : List (Option Value)} {rest : List Value} {u w : Mem} {r : Int32} {N : Nat} {b0 b1 : Int32} (h : f_Md_root N b0 b1 u = some (r, w)) (hfr : 2 + 1 ≤ fr) (hrl : 8 + (3 + 11) + 43 ≤ rl) (hrm : (rest.map fun v => v.category).sum ≤ 8) (hd : decode cc pc = .ok (.invokevirtual 56, 3)) (hq : pc + 3 = q) (k : VJ p l e fr rc rs rl s m args below meth c cells slots Q A cc nL R_La (dC, dI) cA (wA ad cA) q lo (.int r :: rest) w) : VJ p l e fr rc rs rl s m args below meth c cells slots Q A cc nL R_La (dC, dI) cA (wA ad cA) pc lo (.int b1 :: .int b0 :: .ref (ad 15) :: rest) u :=
  v_callVI (As := [.int b0, .int b1]) (rest := rest) (fun sz => c_Md_root l dC dI ad cA sz N b0 b1 u r w h) tw_510 tw_511 tw_512 15 (wA_15 ad cA u) rfl rfl tw_513 tw_28 2 rfl (by decide +kernel) hfr hrl rfl hrm hd hq (fun v w1 hE => by obtain ⟨rfl, rfl⟩ := hE; exact k)
theorem d_Md_field_0 : decode b_Md_field 0 = .ok (.aload_n 0, 1) := by decide +kernel
theorem d_Md_field_1 : decode b_Md_field 1 = .ok (.iload_n 1, 1) := by decide +kernel
theorem d_Md_field_2 : decode b_Md_field 2 = .ok (.invokevirtual 46, 3) := by decide +kernel
theorem d_Md_field_5 : decode b_Md_field 5 = .ok (.ifCond .eq 25, 3) := by decide +kernel
theorem d_Md_field_8 : decode b_Md_field 8 = .ok (.iload_n 2, 1) := by decide +kernel
theorem d_Md_field_9 : decode b_Md_field 9 = .ok (.iconst 0, 1) := by decide +kernel
theorem d_Md_field_10 : decode b_Md_field 10 = .ok (.iconst 1, 1) := by decide +kernel
theorem d_Md_field_11 : decode b_Md_field 11 = .ok (.invokestatic 38, 3) := by decide +kernel
theorem d_Md_field_14 : decode b_Md_field 14 = .ok (.ifCond .eq 16, 3) := by decide +kernel
theorem d_Md_field_17 : decode b_Md_field 17 = .ok (.aload_n 0, 1) := by decide +kernel
theorem d_Md_field_18 : decode b_Md_field 18 = .ok (.getfield 16, 3) := by decide +kernel
theorem d_Md_field_21 : decode b_Md_field 21 = .ok (.iconst 2, 1) := by decide +kernel
theorem d_Md_field_22 : decode b_Md_field 22 = .ok (.iload_n 1, 1) := by decide +kernel
theorem d_Md_field_23 : decode b_Md_field 23 = .ok (.imul, 1) := by decide +kernel
theorem d_Md_field_24 : decode b_Md_field 24 = .ok (.iload_n 2, 1) := by decide +kernel
theorem d_Md_field_25 : decode b_Md_field 25 = .ok (.iadd, 1) := by decide +kernel
theorem d_Md_field_26 : decode b_Md_field 26 = .ok (.iaload, 1) := by decide +kernel
theorem d_Md_field_27 : decode b_Md_field 27 = .ok (.goto 4, 3) := by decide +kernel
theorem d_Md_field_30 : decode b_Md_field 30 = .ok (.iconst (-1), 1) := by decide +kernel
theorem d_Md_field_31 : decode b_Md_field 31 = .ok (.ireturn, 1) := by decide +kernel
set_option maxHeartbeats 4000000 in
set_option maxRecDepth 100000 in
theorem c_Md_field (l : Launch) (dC : Nat → ClassId) (dI : Nat → Nat → Nat) (ad : Nat → Nat) (cA : ClassId) (sz : Nat) (N : Nat) (a1 a2 : Int32) (u : Mem) (r : Int32) (w : Mem) (h : f_Md_field N a1 a2 u = some (r, w)) : CtI l y_Md_field (Cond.code y_Md_field b_Md_field 3 (some .int) :: lw_gd) 2 43 (dC, dI) cA [.ref (ad 15), .int a1, .int a2] (wA ad cA) u sz (fun v w1 => v = r ∧ w1 = w) := by
  refine v_metI (own := R_Md) [some (.ref (ad 15)), some (.int a1), some (.int a2)] rfl (by decide) (Nat.le_of_ble_eq_true rfl) rfl rfl (fun v u h => rfl) ?_
  intro p e s m args below meth c A Q ret
  unfold f_Md_field at h
  refine v_aload_n d_Md_field_0 rfl rfl ?_
  refine v_iload_n d_Md_field_1 rfl rfl ?_
  obtain ⟨y1, u2, hc3, h⟩ := bd_inv h
  refine vc_Md_Md_there hc3 (Nat.le_of_ble_eq_true rfl) (Nat.le_of_ble_eq_true rfl) (Nat.le_of_ble_eq_true rfl) d_Md_field_2 rfl ?_
  refine v_if_eq 30 d_Md_field_5 (by decide) rfl (fun c9 => ?_) (fun c9 => ?_)
  · replace h := (if_pos c9).symm.trans h
    refine v_iconst (-1) d_Md_field_30 (by decide) rfl ?_
    obtain ⟨e1, e2⟩ := rt_inv h
    exact ret _ _ _ _ ⟨e1, e2⟩ d_Md_field_31
  · replace h := (if_neg c9).symm.trans h
    refine v_iload_n d_Md_field_8 rfl rfl ?_
    refine v_iconst 0 d_Md_field_9 (by decide) rfl ?_
    refine v_iconst 1 d_Md_field_10 (by decide) rfl ?_
    obtain ⟨y4, u5, hc6, h⟩ := bd_inv h
    refine vc_Md_Md_within hc6 (Nat.le_of_ble_eq_true rfl) (Nat.le_of_ble_eq_true rfl) (Nat.le_of_ble_eq_true rfl) d_Md_field_11 rfl ?_
    refine v_if_eq 30 d_Md_field_14 (by decide) rfl (fun c8 => ?_) (fun c8 => ?_)
    · replace h := (if_pos c8).symm.trans h
      refine v_iconst (-1) d_Md_field_30 (by decide) rfl ?_
      obtain ⟨e1, e2⟩ := rt_inv h
      exact ret _ _ _ _ ⟨e1, e2⟩ d_Md_field_31
    · replace h := (if_neg c8).symm.trans h
      refine v_aload_n d_Md_field_17 rfl rfl ?_
      refine vg_Md_fieldOf d_Md_field_18 rfl ?_
      refine v_iconst 2 d_Md_field_21 (by decide) rfl ?_
      refine v_iload_n d_Md_field_22 rfl rfl ?_
      refine v_imul d_Md_field_23 rfl ?_
      refine v_iload_n d_Md_field_24 rfl rfl ?_
      refine v_iadd d_Md_field_25 rfl ?_
      obtain ⟨g7, h⟩ := gd_inv h
      refine v_ald 18 (wA_18 ad cA _) d_Md_field_26 g7 rfl ?_
      refine v_goto 31 d_Md_field_27 (by decide) ?_
      obtain ⟨e1, e2⟩ := rt_inv h
      exact ret _ _ _ _ ⟨e1, e2⟩ d_Md_field_31
theorem vc_La_Md_field {p : Program} {l : Launch} {e : Env} {fr rc rs rl : Nat} {s : State} {m : MethodId} {args : Array Value} {below : List Frame} {meth : Method} {c : Code} {cells slots : Nat} {Q : State → Prop} {A : Nat → Prop} {cc : ByteArray} {nL : Nat} {dC : Nat → ClassId} {dI : Nat → Nat → Nat} {cA : ClassId} {ad : Nat → Nat} {pc q : Nat} {lo : List (Option Value)} {rest : List Value} {u w : Mem} {r : Int32} {N : Nat} {b0 b1 : Int32} (h : f_Md_field N b0 b1 u = some (r, w)) (hfr : 2 + 1 ≤ fr) (hrl : 8 + (3 + 11) + 43 ≤ rl) (hrm : (rest.map fun v => v.category).sum ≤ 8) (hd : decode cc pc = .ok (.invokevirtual 60, 3)) (hq : pc + 3 = q) (k : VJ p l e fr rc rs rl s m args below meth c cells slots Q A cc nL R_La (dC, dI) cA (wA ad cA) q lo (.int r :: rest) w) : VJ p l e fr rc rs rl s m args below meth c cells slots Q A cc nL R_La (dC, dI) cA (wA ad cA) pc lo (.int b1 :: .int b0 :: .ref (ad 15) :: rest) u :=
  v_callVI (As := [.int b0, .int b1]) (rest := rest) (fun sz => c_Md_field l dC dI ad cA sz N b0 b1 u r w h) tw_514 tw_515 tw_516 15 (wA_15 ad cA u) rfl rfl tw_517 tw_28 2 rfl (by decide +kernel) hfr hrl rfl hrm hd hq (fun v w1 hE => by obtain ⟨rfl, rfl⟩ := hE; exact k)
