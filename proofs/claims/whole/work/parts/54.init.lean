/-! Constructors. -/
theorem d_Hp_init_0 : decode b_Hp_init 0 = .ok (.aload_n 0, 1) := by decide +kernel
theorem d_Hp_init_1 : decode b_Hp_init 1 = .ok (.invokespecial 3, 3) := by decide +kernel
theorem d_Hp_init_4 : decode b_Hp_init 4 = .ok (.aload_n 0, 1) := by decide +kernel
theorem d_Hp_init_5 : decode b_Hp_init 5 = .ok (.bipush 24, 2) := by decide +kernel
theorem d_Hp_init_7 : decode b_Hp_init 7 = .ok (.newarray .int, 2) := by decide +kernel
theorem d_Hp_init_9 : decode b_Hp_init 9 = .ok (.putfield 9, 3) := by decide +kernel
theorem d_Hp_init_12 : decode b_Hp_init 12 = .ok (.aload_n 0, 1) := by decide +kernel
theorem d_Hp_init_13 : decode b_Hp_init 13 = .ok (.bipush 48, 2) := by decide +kernel
theorem d_Hp_init_15 : decode b_Hp_init 15 = .ok (.newarray .int, 2) := by decide +kernel
theorem d_Hp_init_17 : decode b_Hp_init 17 = .ok (.putfield 15, 3) := by decide +kernel
theorem d_Hp_init_20 : decode b_Hp_init 20 = .ok (.aload_n 0, 1) := by decide +kernel
theorem d_Hp_init_21 : decode b_Hp_init 21 = .ok (.bipush 24, 2) := by decide +kernel
theorem d_Hp_init_23 : decode b_Hp_init 23 = .ok (.newarray .int, 2) := by decide +kernel
theorem d_Hp_init_25 : decode b_Hp_init 25 = .ok (.putfield 18, 3) := by decide +kernel
theorem d_Hp_init_28 : decode b_Hp_init 28 = .ok (.iconst 0, 1) := by decide +kernel
theorem d_Hp_init_29 : decode b_Hp_init 29 = .ok (.istore_n 1, 1) := by decide +kernel
theorem d_Hp_init_30 : decode b_Hp_init 30 = .ok (.iload_n 1, 1) := by decide +kernel
theorem d_Hp_init_31 : decode b_Hp_init 31 = .ok (.bipush 24, 2) := by decide +kernel
theorem d_Hp_init_33 : decode b_Hp_init 33 = .ok (.if_icmp .ge 16, 3) := by decide +kernel
theorem d_Hp_init_36 : decode b_Hp_init 36 = .ok (.aload_n 0, 1) := by decide +kernel
theorem d_Hp_init_37 : decode b_Hp_init 37 = .ok (.getfield 18, 3) := by decide +kernel
theorem d_Hp_init_40 : decode b_Hp_init 40 = .ok (.iload_n 1, 1) := by decide +kernel
theorem d_Hp_init_41 : decode b_Hp_init 41 = .ok (.iconst (-1), 1) := by decide +kernel
theorem d_Hp_init_42 : decode b_Hp_init 42 = .ok (.iastore, 1) := by decide +kernel
theorem d_Hp_init_43 : decode b_Hp_init 43 = .ok (.iinc 1 1, 3) := by decide +kernel
theorem d_Hp_init_46 : decode b_Hp_init 46 = .ok (.goto (-16), 3) := by decide +kernel
theorem d_Hp_init_49 : decode b_Hp_init 49 = .ok (.return_, 1) := by decide +kernel
theorem d_Xt_init_0 : decode b_Xt_init 0 = .ok (.aload_n 0, 1) := by decide +kernel
theorem d_Xt_init_1 : decode b_Xt_init 1 = .ok (.invokespecial 5, 3) := by decide +kernel
theorem d_Xt_init_4 : decode b_Xt_init 4 = .ok (.aload_n 0, 1) := by decide +kernel
theorem d_Xt_init_5 : decode b_Xt_init 5 = .ok (.bipush 105, 2) := by decide +kernel
theorem d_Xt_init_7 : decode b_Xt_init 7 = .ok (.newarray .int, 2) := by decide +kernel
theorem d_Xt_init_9 : decode b_Xt_init 9 = .ok (.putfield 11, 3) := by decide +kernel
theorem d_Xt_init_12 : decode b_Xt_init 12 = .ok (.aload_n 0, 1) := by decide +kernel
theorem d_Xt_init_13 : decode b_Xt_init 13 = .ok (.bipush 105, 2) := by decide +kernel
theorem d_Xt_init_15 : decode b_Xt_init 15 = .ok (.newarray .int, 2) := by decide +kernel
theorem d_Xt_init_17 : decode b_Xt_init 17 = .ok (.putfield 15, 3) := by decide +kernel
theorem d_Xt_init_20 : decode b_Xt_init 20 = .ok (.aload_n 0, 1) := by decide +kernel
theorem d_Xt_init_21 : decode b_Xt_init 21 = .ok (.bipush 105, 2) := by decide +kernel
theorem d_Xt_init_23 : decode b_Xt_init 23 = .ok (.newarray .int, 2) := by decide +kernel
theorem d_Xt_init_25 : decode b_Xt_init 25 = .ok (.putfield 18, 3) := by decide +kernel
theorem d_Xt_init_28 : decode b_Xt_init 28 = .ok (.return_, 1) := by decide +kernel
theorem d_Qu_init_0 : decode b_Qu_init 0 = .ok (.aload_n 0, 1) := by decide +kernel
theorem d_Qu_init_1 : decode b_Qu_init 1 = .ok (.invokespecial 3, 3) := by decide +kernel
theorem d_Qu_init_4 : decode b_Qu_init 4 = .ok (.aload_n 0, 1) := by decide +kernel
theorem d_Qu_init_5 : decode b_Qu_init 5 = .ok (.sipush 160, 3) := by decide +kernel
theorem d_Qu_init_8 : decode b_Qu_init 8 = .ok (.newarray .int, 2) := by decide +kernel
theorem d_Qu_init_10 : decode b_Qu_init 10 = .ok (.putfield 11, 3) := by decide +kernel
theorem d_Qu_init_13 : decode b_Qu_init 13 = .ok (.return_, 1) := by decide +kernel
theorem d_Sh_init_0 : decode b_Sh_init 0 = .ok (.aload_n 0, 1) := by decide +kernel
theorem d_Sh_init_1 : decode b_Sh_init 1 = .ok (.invokespecial 1, 3) := by decide +kernel
theorem d_Sh_init_4 : decode b_Sh_init 4 = .ok (.aload_n 0, 1) := by decide +kernel
theorem d_Sh_init_5 : decode b_Sh_init 5 = .ok (.bipush 9, 2) := by decide +kernel
theorem d_Sh_init_7 : decode b_Sh_init 7 = .ok (.newarray .int, 2) := by decide +kernel
theorem d_Sh_init_9 : decode b_Sh_init 9 = .ok (.putfield 9, 3) := by decide +kernel
theorem d_Sh_init_12 : decode b_Sh_init 12 = .ok (.aload_n 0, 1) := by decide +kernel
theorem d_Sh_init_13 : decode b_Sh_init 13 = .ok (.new 13, 3) := by decide +kernel
theorem d_Sh_init_16 : decode b_Sh_init 16 = .ok (.dup, 1) := by decide +kernel
theorem d_Sh_init_17 : decode b_Sh_init 17 = .ok (.invokespecial 15, 3) := by decide +kernel
theorem d_Sh_init_20 : decode b_Sh_init 20 = .ok (.putfield 16, 3) := by decide +kernel
theorem d_Sh_init_23 : decode b_Sh_init 23 = .ok (.aload_n 0, 1) := by decide +kernel
theorem d_Sh_init_24 : decode b_Sh_init 24 = .ok (.new 20, 3) := by decide +kernel
theorem d_Sh_init_27 : decode b_Sh_init 27 = .ok (.dup, 1) := by decide +kernel
theorem d_Sh_init_28 : decode b_Sh_init 28 = .ok (.invokespecial 22, 3) := by decide +kernel
theorem d_Sh_init_31 : decode b_Sh_init 31 = .ok (.putfield 23, 3) := by decide +kernel
theorem d_Sh_init_34 : decode b_Sh_init 34 = .ok (.aload_n 0, 1) := by decide +kernel
theorem d_Sh_init_35 : decode b_Sh_init 35 = .ok (.new 27, 3) := by decide +kernel
theorem d_Sh_init_38 : decode b_Sh_init 38 = .ok (.dup, 1) := by decide +kernel
theorem d_Sh_init_39 : decode b_Sh_init 39 = .ok (.invokespecial 29, 3) := by decide +kernel
theorem d_Sh_init_42 : decode b_Sh_init 42 = .ok (.putfield 30, 3) := by decide +kernel
theorem d_Sh_init_45 : decode b_Sh_init 45 = .ok (.aload_n 0, 1) := by decide +kernel
theorem d_Sh_init_46 : decode b_Sh_init 46 = .ok (.iconst 3, 1) := by decide +kernel
theorem d_Sh_init_47 : decode b_Sh_init 47 = .ok (.newarray .int, 2) := by decide +kernel
theorem d_Sh_init_49 : decode b_Sh_init 49 = .ok (.putfield 34, 3) := by decide +kernel
theorem d_Sh_init_52 : decode b_Sh_init 52 = .ok (.aload_n 0, 1) := by decide +kernel
theorem d_Sh_init_53 : decode b_Sh_init 53 = .ok (.iconst 3, 1) := by decide +kernel
theorem d_Sh_init_54 : decode b_Sh_init 54 = .ok (.newarray .int, 2) := by decide +kernel
theorem d_Sh_init_56 : decode b_Sh_init 56 = .ok (.putfield 37, 3) := by decide +kernel
theorem d_Sh_init_59 : decode b_Sh_init 59 = .ok (.aload_n 0, 1) := by decide +kernel
theorem d_Sh_init_60 : decode b_Sh_init 60 = .ok (.bipush 24, 2) := by decide +kernel
theorem d_Sh_init_62 : decode b_Sh_init 62 = .ok (.newarray .int, 2) := by decide +kernel
theorem d_Sh_init_64 : decode b_Sh_init 64 = .ok (.putfield 40, 3) := by decide +kernel
theorem d_Sh_init_67 : decode b_Sh_init 67 = .ok (.iconst 0, 1) := by decide +kernel
theorem d_Sh_init_68 : decode b_Sh_init 68 = .ok (.istore_n 1, 1) := by decide +kernel
theorem d_Sh_init_69 : decode b_Sh_init 69 = .ok (.iload_n 1, 1) := by decide +kernel
theorem d_Sh_init_70 : decode b_Sh_init 70 = .ok (.iconst 3, 1) := by decide +kernel
theorem d_Sh_init_71 : decode b_Sh_init 71 = .ok (.if_icmp .ge 17, 3) := by decide +kernel
theorem d_Sh_init_74 : decode b_Sh_init 74 = .ok (.aload_n 0, 1) := by decide +kernel
theorem d_Sh_init_75 : decode b_Sh_init 75 = .ok (.getfield 37, 3) := by decide +kernel
theorem d_Sh_init_78 : decode b_Sh_init 78 = .ok (.iload_n 1, 1) := by decide +kernel
theorem d_Sh_init_79 : decode b_Sh_init 79 = .ok (.ldc 43, 2) := by decide +kernel
theorem d_Sh_init_81 : decode b_Sh_init 81 = .ok (.iastore, 1) := by decide +kernel
theorem d_Sh_init_82 : decode b_Sh_init 82 = .ok (.iinc 1 1, 3) := by decide +kernel
theorem d_Sh_init_85 : decode b_Sh_init 85 = .ok (.goto (-16), 3) := by decide +kernel
theorem d_Sh_init_88 : decode b_Sh_init 88 = .ok (.return_, 1) := by decide +kernel
theorem d_Md_init_0 : decode b_Md_init 0 = .ok (.aload_n 0, 1) := by decide +kernel
theorem d_Md_init_1 : decode b_Md_init 1 = .ok (.invokespecial 1, 3) := by decide +kernel
theorem d_Md_init_4 : decode b_Md_init 4 = .ok (.aload_n 0, 1) := by decide +kernel
theorem d_Md_init_5 : decode b_Md_init 5 = .ok (.sipush 513, 3) := by decide +kernel
theorem d_Md_init_8 : decode b_Md_init 8 = .ok (.newarray .int, 2) := by decide +kernel
theorem d_Md_init_10 : decode b_Md_init 10 = .ok (.putfield 7, 3) := by decide +kernel
theorem d_Md_init_13 : decode b_Md_init 13 = .ok (.aload_n 0, 1) := by decide +kernel
theorem d_Md_init_14 : decode b_Md_init 14 = .ok (.sipush 513, 3) := by decide +kernel
theorem d_Md_init_17 : decode b_Md_init 17 = .ok (.newarray .int, 2) := by decide +kernel
theorem d_Md_init_19 : decode b_Md_init 19 = .ok (.putfield 13, 3) := by decide +kernel
theorem d_Md_init_22 : decode b_Md_init 22 = .ok (.aload_n 0, 1) := by decide +kernel
theorem d_Md_init_23 : decode b_Md_init 23 = .ok (.sipush 1026, 3) := by decide +kernel
theorem d_Md_init_26 : decode b_Md_init 26 = .ok (.newarray .int, 2) := by decide +kernel
theorem d_Md_init_28 : decode b_Md_init 28 = .ok (.putfield 16, 3) := by decide +kernel
theorem d_Md_init_31 : decode b_Md_init 31 = .ok (.aload_n 0, 1) := by decide +kernel
theorem d_Md_init_32 : decode b_Md_init 32 = .ok (.bipush 9, 2) := by decide +kernel
theorem d_Md_init_34 : decode b_Md_init 34 = .ok (.newarray .int, 2) := by decide +kernel
theorem d_Md_init_36 : decode b_Md_init 36 = .ok (.putfield 19, 3) := by decide +kernel
theorem d_Md_init_39 : decode b_Md_init 39 = .ok (.aload_n 0, 1) := by decide +kernel
theorem d_Md_init_40 : decode b_Md_init 40 = .ok (.sipush 1539, 3) := by decide +kernel
theorem d_Md_init_43 : decode b_Md_init 43 = .ok (.newarray .int, 2) := by decide +kernel
theorem d_Md_init_45 : decode b_Md_init 45 = .ok (.putfield 22, 3) := by decide +kernel
theorem d_Md_init_48 : decode b_Md_init 48 = .ok (.aload_n 0, 1) := by decide +kernel
theorem d_Md_init_49 : decode b_Md_init 49 = .ok (.iconst 3, 1) := by decide +kernel
theorem d_Md_init_50 : decode b_Md_init 50 = .ok (.newarray .int, 2) := by decide +kernel
theorem d_Md_init_52 : decode b_Md_init 52 = .ok (.putfield 25, 3) := by decide +kernel
theorem d_Md_init_55 : decode b_Md_init 55 = .ok (.aload_n 0, 1) := by decide +kernel
theorem d_Md_init_56 : decode b_Md_init 56 = .ok (.iconst 3, 1) := by decide +kernel
theorem d_Md_init_57 : decode b_Md_init 57 = .ok (.newarray .int, 2) := by decide +kernel
theorem d_Md_init_59 : decode b_Md_init 59 = .ok (.putfield 28, 3) := by decide +kernel
theorem d_Md_init_62 : decode b_Md_init 62 = .ok (.aload_n 0, 1) := by decide +kernel
theorem d_Md_init_63 : decode b_Md_init 63 = .ok (.sipush 400, 3) := by decide +kernel
theorem d_Md_init_66 : decode b_Md_init 66 = .ok (.newarray .int, 2) := by decide +kernel
theorem d_Md_init_68 : decode b_Md_init 68 = .ok (.putfield 31, 3) := by decide +kernel
theorem d_Md_init_71 : decode b_Md_init 71 = .ok (.aload_n 0, 1) := by decide +kernel
theorem d_Md_init_72 : decode b_Md_init 72 = .ok (.sipush 513, 3) := by decide +kernel
theorem d_Md_init_75 : decode b_Md_init 75 = .ok (.newarray .int, 2) := by decide +kernel
theorem d_Md_init_77 : decode b_Md_init 77 = .ok (.putfield 34, 3) := by decide +kernel
theorem d_Md_init_80 : decode b_Md_init 80 = .ok (.iconst 0, 1) := by decide +kernel
theorem d_Md_init_81 : decode b_Md_init 81 = .ok (.istore_n 1, 1) := by decide +kernel
theorem d_Md_init_82 : decode b_Md_init 82 = .ok (.iload_n 1, 1) := by decide +kernel
theorem d_Md_init_83 : decode b_Md_init 83 = .ok (.iconst 3, 1) := by decide +kernel
theorem d_Md_init_84 : decode b_Md_init 84 = .ok (.if_icmp .ge 17, 3) := by decide +kernel
theorem d_Md_init_87 : decode b_Md_init 87 = .ok (.aload_n 0, 1) := by decide +kernel
theorem d_Md_init_88 : decode b_Md_init 88 = .ok (.getfield 28, 3) := by decide +kernel
theorem d_Md_init_91 : decode b_Md_init 91 = .ok (.iload_n 1, 1) := by decide +kernel
theorem d_Md_init_92 : decode b_Md_init 92 = .ok (.ldc 37, 2) := by decide +kernel
theorem d_Md_init_94 : decode b_Md_init 94 = .ok (.iastore, 1) := by decide +kernel
theorem d_Md_init_95 : decode b_Md_init 95 = .ok (.iinc 1 1, 3) := by decide +kernel
theorem d_Md_init_98 : decode b_Md_init 98 = .ok (.goto (-16), 3) := by decide +kernel
theorem d_Md_init_101 : decode b_Md_init 101 = .ok (.return_, 1) := by decide +kernel
def z0 : Mem := fun _ _ => 0
def mixM (a b : Nat) (u v : Mem) : Mem := fun q => if a ≤ q ∧ q ≤ b then u q else v q
theorem mix_zero {uHp uXt uQu : Mem} {q : Nat} (h1 : ¬ q = 5) (hH : ∀ q, ¬ q = 5 → uHp q = fun _ => 0) (hX : ∀ q, uXt q = fun _ => 0) (hQ : ∀ q, uQu q = fun _ => 0) : mixM 10 11 uQu (mixM 6 9 uXt (mixM 2 5 uHp z0)) q = fun _ => 0 := by
  unfold mixM
  split
  · exact hQ q
  · split
    · exact hX q
    · split
      · exact hH q h1
      · rfl
def w_Hp (ad : Nat → Nat) (cA : ClassId) (u : Mem) : va_W := [(ad 2, .inr (1, [.ref (ad 3), .ref (ad 4), .ref (ad 5), .int (u 2 3)])), (ad 3, .inl (cA, 24, .inl (u 3))), (ad 4, .inl (cA, 48, .inl (u 4))), (ad 5, .inl (cA, 24, .inl (u 5)))]
def w_Xt (ad : Nat → Nat) (cA : ClassId) (u : Mem) : va_W := [(ad 6, .inr (0, [.ref (ad 7), .ref (ad 8), .ref (ad 9), .int (u 6 3)])), (ad 7, .inl (cA, 105, .inl (u 7))), (ad 8, .inl (cA, 105, .inl (u 8))), (ad 9, .inl (cA, 105, .inl (u 9)))]
def w_Qu (ad : Nat → Nat) (cA : ClassId) (u : Mem) : va_W := [(ad 10, .inr (2, [.ref (ad 11), .int (u 10 1)])), (ad 11, .inl (cA, 160, .inl (u 11)))]
def w_Sh (ad : Nat → Nat) (cA : ClassId) (u : Mem) : va_W := [(ad 0, .inr (3, [.ref (ad 1), .ref (ad 2), .ref (ad 6), .ref (ad 10), .ref (ad 12), .ref (ad 13), .ref (ad 14), .int (u 0 7), .int (u 0 8)])), (ad 1, .inl (cA, 9, .inl (u 1))), (ad 2, .inr (1, [.ref (ad 3), .ref (ad 4), .ref (ad 5), .int (u 2 3)])), (ad 3, .inl (cA, 24, .inl (u 3))), (ad 4, .inl (cA, 48, .inl (u 4))), (ad 5, .inl (cA, 24, .inl (u 5))), (ad 6, .inr (0, [.ref (ad 7), .ref (ad 8), .ref (ad 9), .int (u 6 3)])), (ad 7, .inl (cA, 105, .inl (u 7))), (ad 8, .inl (cA, 105, .inl (u 8))), (ad 9, .inl (cA, 105, .inl (u 9))), (ad 10, .inr (2, [.ref (ad 11), .int (u 10 1)])), (ad 11, .inl (cA, 160, .inl (u 11))), (ad 12, .inl (cA, 3, .inl (u 12))), (ad 13, .inl (cA, 3, .inl (u 13))), (ad 14, .inl (cA, 24, .inl (u 14)))]
def w_Md (ad : Nat → Nat) (cA : ClassId) (u : Mem) : va_W := [(ad 15, .inr (4, [.int (u 15 0), .int (u 15 1), .ref (ad 16), .ref (ad 17), .ref (ad 18), .ref (ad 19), .ref (ad 20), .ref (ad 21), .ref (ad 22), .int (u 15 9), .int (u 15 10), .ref (ad 23), .ref (ad 24)])), (ad 16, .inl (cA, 513, .inl (u 16))), (ad 17, .inl (cA, 513, .inl (u 17))), (ad 18, .inl (cA, 1026, .inl (u 18))), (ad 19, .inl (cA, 9, .inl (u 19))), (ad 20, .inl (cA, 1539, .inl (u 20))), (ad 21, .inl (cA, 3, .inl (u 21))), (ad 22, .inl (cA, 3, .inl (u 22))), (ad 23, .inl (cA, 400, .inl (u 23))), (ad 24, .inl (cA, 513, .inl (u 24)))]
set_option maxHeartbeats 4000000 in
set_option maxRecDepth 100000 in
theorem c_Hp_init (l : Launch) (dC : Nat → ClassId) (dI : Nat → Nat → Nat) (cA : ClassId) (h0 sz : Nat) : CtN l y_Hp_init (Cond.code y_Hp_init b_Hp_init 2 none :: lw_gd) 1 12 3 96 (dC, dI) cA h0 [(h0, .inr (1, [.null, .null, .null, .int (z0 2 3)]))] sz (fun _ => True) (fun ad u => ad 2 = h0 ∧ (∀ q, ¬ q = 5 → u q = fun _ => 0) ∧ ∀ j, j < 24 → u 5 j = -1) (fun ad u => w_Hp ad cA u) := by
  refine v_metN (own := R_Hp) (wf := (fun ν : Mem => [(h0, .inr (1, [.null, .null, .null, .int (ν 2 3)]))])) (μ := z0) [some (.ref h0), none] rfl rfl (by decide) (Nat.le_of_ble_eq_true rfl) rfl ?_
  intro p e s m args below meth c A Q hmn hEx ret
  refine v_aload_n d_Hp_init_0 rfl rfl ?_
  refine v_obj tw_43 tw_36 tw_37 (Nat.le_of_ble_eq_true rfl) (Nat.le_of_ble_eq_true rfl) d_Hp_init_1 rfl ?_
  refine v_aload_n d_Hp_init_4 rfl rfl ?_
  refine v_bipush 24 d_Hp_init_5 (by decide) rfl ?_
  refine v_newa 3 24 (by decide) (by decide) tw_57 rfl (by decide) (Nat.le_of_ble_eq_true rfl) (Nat.le_of_ble_eq_true rfl) d_Hp_init_7 rfl (fun a3 => ?_)
  refine v_putF 0 (kf := 0) (fun ν => [(h0, .inr (1, [.ref a3, .null, .null, .int (ν 2 3)])), (a3, .inl (cA, 24, .inl (ν 3)))]) (.array .int) rfl rfl in_Hp t_Hp t_Hp_ok n_Hp (by decide) ⟨rfl, rfl, rfl, rfl⟩ rfl hmn tw_44 (by decide +kernel) rfl rfl (Nat.le_of_ble_eq_true rfl) rfl d_Hp_init_9 rfl ?_
  refine v_aload_n d_Hp_init_12 rfl rfl ?_
  refine v_bipush 48 d_Hp_init_13 (by decide) rfl ?_
  refine v_newa 4 48 (by decide) (by decide) tw_57 rfl (by decide) (Nat.le_of_ble_eq_true rfl) (Nat.le_of_ble_eq_true rfl) d_Hp_init_15 rfl (fun a4 => ?_)
  refine v_putF 0 (kf := 1) (fun ν => [(h0, .inr (1, [.ref a3, .ref a4, .null, .int (ν 2 3)])), (a3, .inl (cA, 24, .inl (ν 3))), (a4, .inl (cA, 48, .inl (ν 4)))]) (.array .int) rfl rfl in_Hp t_Hp t_Hp_ok n_Hp (by decide) ⟨rfl, rfl, rfl, rfl⟩ rfl hmn tw_45 (by decide +kernel) rfl rfl (Nat.le_of_ble_eq_true rfl) rfl d_Hp_init_17 rfl ?_
  refine v_aload_n d_Hp_init_20 rfl rfl ?_
  refine v_bipush 24 d_Hp_init_21 (by decide) rfl ?_
  refine v_newa 5 24 (by decide) (by decide) tw_57 rfl (by decide) (Nat.le_of_ble_eq_true rfl) (Nat.le_of_ble_eq_true rfl) d_Hp_init_23 rfl (fun a5 => ?_)
  refine v_putF 0 (kf := 2) (fun ν => [(h0, .inr (1, [.ref a3, .ref a4, .ref a5, .int (ν 2 3)])), (a3, .inl (cA, 24, .inl (ν 3))), (a4, .inl (cA, 48, .inl (ν 4))), (a5, .inl (cA, 24, .inl (ν 5)))]) (.array .int) rfl rfl in_Hp t_Hp t_Hp_ok n_Hp (by decide) ⟨rfl, rfl, rfl, rfl⟩ rfl hmn tw_46 (by decide +kernel) rfl rfl (Nat.le_of_ble_eq_true rfl) rfl d_Hp_init_25 rfl ?_
  refine v_iconst 0 d_Hp_init_28 (by decide) rfl ?_
  refine v_istore_n (lo' := [_, _]) d_Hp_init_29 rfl (by decide) rfl ?_
  have L : ∀ (d i : Nat) (u : Mem), i + d = 24 → (∀ q, ¬ q = 5 → u q = z0 q) → (∀ j, j < i → u 5 j = (-1)) → VJ p l e 1 3 96 12 s m args below meth c 3 96 Q A b_Hp_init 2 R_Hp (dC, dI) cA (fun ν => [(h0, .inr (1, [.ref a3, .ref a4, .ref a5, .int (ν 2 3)])), (a3, .inl (cA, 24, .inl (ν 3))), (a4, .inl (cA, 48, .inl (ν 4))), (a5, .inl (cA, 24, .inl (ν 5)))]) 30 [some (.ref h0), some (.int (nI i))] [] u := by
    intro d
    induction d with
    | zero =>
      intro i u hi hu hv
      refine v_iload_n d_Hp_init_30 rfl rfl ?_
      refine v_bipush 24 d_Hp_init_31 (by decide) rfl ?_
      refine v_icmp_ge 49 d_Hp_init_33 (by decide) rfl (fun c => ?_) (fun c => absurd (show nI 24 ≤ nI i from nI_le (by omega) (by omega)) c)
      exact ret (fun ν => [(h0, .inr (1, [.ref a3, .ref a4, .ref a5, .int (ν 2 3)])), (a3, .inl (cA, 24, .inl (ν 3))), (a4, .inl (cA, 48, .inl (ν 4))), (a5, .inl (cA, 24, .inl (ν 5)))]) u (fun k => if k = 2 then h0 else if k = 3 then a3 else if k = 4 then a4 else a5) u [0, 1, 2, 3] _ _ ⟨rfl, fun q hq => (hu q hq).trans rfl, fun j hj => hv j (by omega)⟩ (by decide) rfl d_Hp_init_49
    | succ d ih =>
      intro i u hi hu hv
      refine v_iload_n d_Hp_init_30 rfl rfl ?_
      refine v_bipush 24 d_Hp_init_31 (by decide) rfl ?_
      refine v_icmp_ge 49 d_Hp_init_33 (by decide) rfl (fun c => absurd c (show ¬ nI 24 ≤ nI i from nI_ge (by omega) (by omega))) (fun c => ?_)
      refine v_aload_n d_Hp_init_36 rfl rfl ?_
      refine v_get 0 (kf := 2) rfl rfl in_Hp (by decide) ⟨rfl, rfl, rfl⟩ tw_46 rfl d_Hp_init_37 rfl ?_
      refine v_iload_n d_Hp_init_40 rfl rfl ?_
      refine v_iconst (-1) d_Hp_init_41 (by decide) rfl ?_
      refine v_ast 3 (μ2 := stM u 5 (nI i).toNatClampNeg (-1)) rfl rfl rfl d_Hp_init_42 (vp_in_nI (show i < 24 by omega) (by omega)) rfl ?_
      refine v_iinc (lo' := [_, _]) 1 d_Hp_init_43 (by decide) rfl rfl (by decide) rfl ?_
      refine v_goto 30 d_Hp_init_46 (by decide) ?_
      have e1 : nI i + 1 = nI (i + 1) := nI_1 i
      rw [e1]
      refine ih (i + 1) _ (by omega) (fun q hq => by rw [stM_ne hq]; exact hu q hq) (fun j hj => ?_)
      rw [nI_clamp (by omega), stM_eq]
      by_cases hji : j = i
      · rw [hji]; exact pk_us
      · rw [pk_un hji]; exact hv j (by omega)
  exact L 24 0 z0 rfl (fun _ _ => rfl) (fun j hj => absurd hj (Nat.not_lt_zero j))
set_option maxHeartbeats 4000000 in
set_option maxRecDepth 100000 in
theorem c_Xt_init (l : Launch) (dC : Nat → ClassId) (dI : Nat → Nat → Nat) (cA : ClassId) (h0 sz : Nat) : CtN l y_Xt_init (Cond.code y_Xt_init b_Xt_init 1 none :: lw_gd) 1 12 3 315 (dC, dI) cA h0 [(h0, .inr (0, [.null, .null, .null, .int (z0 6 3)]))] sz (fun _ => True) (fun ad u => ad 6 = h0 ∧ ∀ q, u q = fun _ => 0) (fun ad u => w_Xt ad cA u) := by
  refine v_metN (own := R_Xt) (wf := (fun ν : Mem => [(h0, .inr (0, [.null, .null, .null, .int (ν 6 3)]))])) (μ := z0) [some (.ref h0)] rfl rfl (by decide) (Nat.le_of_ble_eq_true rfl) rfl ?_
  intro p e s m args below meth c A Q hmn hEx ret
  refine v_aload_n d_Xt_init_0 rfl rfl ?_
  refine v_obj tw_63 tw_36 tw_37 (Nat.le_of_ble_eq_true rfl) (Nat.le_of_ble_eq_true rfl) d_Xt_init_1 rfl ?_
  refine v_aload_n d_Xt_init_4 rfl rfl ?_
  refine v_bipush 105 d_Xt_init_5 (by decide) rfl ?_
  refine v_newa 7 105 (by decide) (by decide) tw_57 rfl (by decide) (Nat.le_of_ble_eq_true rfl) (Nat.le_of_ble_eq_true rfl) d_Xt_init_7 rfl (fun a7 => ?_)
  refine v_putF 0 (kf := 0) (fun ν => [(h0, .inr (0, [.ref a7, .null, .null, .int (ν 6 3)])), (a7, .inl (cA, 105, .inl (ν 7)))]) (.array .int) rfl rfl in_Xt t_Xt t_Xt_ok n_Xt (by decide) ⟨rfl, rfl, rfl, rfl⟩ rfl hmn tw_64 (by decide +kernel) rfl rfl (Nat.le_of_ble_eq_true rfl) rfl d_Xt_init_9 rfl ?_
  refine v_aload_n d_Xt_init_12 rfl rfl ?_
  refine v_bipush 105 d_Xt_init_13 (by decide) rfl ?_
  refine v_newa 8 105 (by decide) (by decide) tw_57 rfl (by decide) (Nat.le_of_ble_eq_true rfl) (Nat.le_of_ble_eq_true rfl) d_Xt_init_15 rfl (fun a8 => ?_)
  refine v_putF 0 (kf := 1) (fun ν => [(h0, .inr (0, [.ref a7, .ref a8, .null, .int (ν 6 3)])), (a7, .inl (cA, 105, .inl (ν 7))), (a8, .inl (cA, 105, .inl (ν 8)))]) (.array .int) rfl rfl in_Xt t_Xt t_Xt_ok n_Xt (by decide) ⟨rfl, rfl, rfl, rfl⟩ rfl hmn tw_65 (by decide +kernel) rfl rfl (Nat.le_of_ble_eq_true rfl) rfl d_Xt_init_17 rfl ?_
  refine v_aload_n d_Xt_init_20 rfl rfl ?_
  refine v_bipush 105 d_Xt_init_21 (by decide) rfl ?_
  refine v_newa 9 105 (by decide) (by decide) tw_57 rfl (by decide) (Nat.le_of_ble_eq_true rfl) (Nat.le_of_ble_eq_true rfl) d_Xt_init_23 rfl (fun a9 => ?_)
  refine v_putF 0 (kf := 2) (fun ν => [(h0, .inr (0, [.ref a7, .ref a8, .ref a9, .int (ν 6 3)])), (a7, .inl (cA, 105, .inl (ν 7))), (a8, .inl (cA, 105, .inl (ν 8))), (a9, .inl (cA, 105, .inl (ν 9)))]) (.array .int) rfl rfl in_Xt t_Xt t_Xt_ok n_Xt (by decide) ⟨rfl, rfl, rfl, rfl⟩ rfl hmn tw_66 (by decide +kernel) rfl rfl (Nat.le_of_ble_eq_true rfl) rfl d_Xt_init_25 rfl ?_
  exact ret (fun ν => [(h0, .inr (0, [.ref a7, .ref a8, .ref a9, .int (ν 6 3)])), (a7, .inl (cA, 105, .inl (ν 7))), (a8, .inl (cA, 105, .inl (ν 8))), (a9, .inl (cA, 105, .inl (ν 9)))]) z0 (fun k => if k = 6 then h0 else if k = 7 then a7 else if k = 8 then a8 else a9) z0 [0, 1, 2, 3] _ _ ⟨rfl, fun _ => rfl⟩ (by decide) rfl d_Xt_init_28
set_option maxHeartbeats 4000000 in
set_option maxRecDepth 100000 in
theorem c_Qu_init (l : Launch) (dC : Nat → ClassId) (dI : Nat → Nat → Nat) (cA : ClassId) (h0 sz : Nat) : CtN l y_Qu_init (Cond.code y_Qu_init b_Qu_init 1 none :: lw_gd) 1 12 1 160 (dC, dI) cA h0 [(h0, .inr (2, [.null, .int (z0 10 1)]))] sz (fun _ => True) (fun ad u => ad 10 = h0 ∧ ∀ q, u q = fun _ => 0) (fun ad u => w_Qu ad cA u) := by
  refine v_metN (own := R_Qu) (wf := (fun ν : Mem => [(h0, .inr (2, [.null, .int (ν 10 1)]))])) (μ := z0) [some (.ref h0)] rfl rfl (by decide) (Nat.le_of_ble_eq_true rfl) rfl ?_
  intro p e s m args below meth c A Q hmn hEx ret
  refine v_aload_n d_Qu_init_0 rfl rfl ?_
  refine v_obj tw_82 tw_36 tw_37 (Nat.le_of_ble_eq_true rfl) (Nat.le_of_ble_eq_true rfl) d_Qu_init_1 rfl ?_
  refine v_aload_n d_Qu_init_4 rfl rfl ?_
  refine v_sipush 160 d_Qu_init_5 (by decide) rfl ?_
  refine v_newa 11 160 (by decide) (by decide) tw_57 rfl (by decide) (Nat.le_of_ble_eq_true rfl) (Nat.le_of_ble_eq_true rfl) d_Qu_init_8 rfl (fun a11 => ?_)
  refine v_putF 0 (kf := 0) (fun ν => [(h0, .inr (2, [.ref a11, .int (ν 10 1)])), (a11, .inl (cA, 160, .inl (ν 11)))]) (.array .int) rfl rfl in_Qu t_Qu t_Qu_ok n_Qu (by decide) ⟨rfl, rfl, rfl, rfl⟩ rfl hmn tw_83 (by decide +kernel) rfl rfl (Nat.le_of_ble_eq_true rfl) rfl d_Qu_init_10 rfl ?_
  exact ret (fun ν => [(h0, .inr (2, [.ref a11, .int (ν 10 1)])), (a11, .inl (cA, 160, .inl (ν 11)))]) z0 (fun k => if k = 10 then h0 else a11) z0 [0, 1] _ _ ⟨rfl, fun _ => rfl⟩ (by decide) rfl d_Qu_init_13
set_option maxHeartbeats 4000000 in
set_option maxRecDepth 100000 in
theorem c_Sh_init (l : Launch) (dC : Nat → ClassId) (dI : Nat → Nat → Nat) (cA : ClassId) (h0 sz : Nat) : CtN l y_Sh_init (Cond.code y_Sh_init b_Sh_init 2 none :: lw_gd) 2 33 14 620 (dC, dI) cA h0 [(h0, .inr (3, [.null, .null, .null, .null, .null, .null, .null, .int (z0 0 7), .int (z0 0 8)]))] sz (fun U => va_Nw (.methodLinkNest R_Sh 22 y_Xt_init R_Sh) U ∧ va_Nw (.methodLinkNest R_Sh 29 y_Qu_init R_Sh) U) (fun ad u => ad 0 = h0 ∧ (∀ q, ¬ q = 5 → ¬ q = 13 → u q = fun _ => 0) ∧ (∀ j, j < 24 → u 5 j = -1) ∧ ∀ j, j < 3 → u 13 j = 2147483647) (fun ad u => w_Sh ad cA u) := by
  refine v_metN (own := R_Sh) (wf := (fun ν : Mem => [(h0, .inr (3, [.null, .null, .null, .null, .null, .null, .null, .int (ν 0 7), .int (ν 0 8)]))])) (μ := z0) [some (.ref h0), none] rfl rfl (by decide) (Nat.le_of_ble_eq_true rfl) rfl ?_
  intro p e s m args below meth c A Q hmn hEx ret
  refine v_aload_n d_Sh_init_0 rfl rfl ?_
  refine v_obj tw_35 tw_36 tw_37 (Nat.le_of_ble_eq_true rfl) (Nat.le_of_ble_eq_true rfl) d_Sh_init_1 rfl ?_
  refine v_aload_n d_Sh_init_4 rfl rfl ?_
  refine v_bipush 9 d_Sh_init_5 (by decide) rfl ?_
  refine v_newa 1 9 (by decide) (by decide) tw_57 rfl (by decide) (Nat.le_of_ble_eq_true rfl) (Nat.le_of_ble_eq_true rfl) d_Sh_init_7 rfl (fun a1 => ?_)
  refine v_putF 0 (kf := 0) (fun ν => [(h0, .inr (3, [.ref a1, .null, .null, .null, .null, .null, .null, .int (ν 0 7), .int (ν 0 8)])), (a1, .inl (cA, 9, .inl (ν 1)))]) (.array .int) rfl rfl in_Sh t_Sh t_Sh_ok n_Sh (by decide) ⟨rfl, rfl, rfl, rfl⟩ rfl hmn tw_91 (by decide +kernel) rfl rfl (Nat.le_of_ble_eq_true rfl) rfl d_Sh_init_9 rfl ?_
  refine v_aload_n d_Sh_init_12 rfl rfl ?_
  refine v_newo (ci := 1) (T := F_Hp) (N := 4) (fun ν => [.null, .null, .null, .int (ν 2 3)]) rfl in_Hp t_Hp t_Hp_ok tw_38 tw_39 tw_25 (fun j hj => by rcases (show j = 0 ∨ j = 1 ∨ j = 2 ∨ j = 3 by omega) with rfl | rfl | rfl | rfl <;> rfl) (Nat.le_of_ble_eq_true rfl) (Nat.le_of_ble_eq_true rfl) d_Sh_init_13 rfl (fun b2 => ?_)
  refine v_dup d_Sh_init_16 rfl rfl ?_
  refine v_initC (wr := [(h0, .inr (3, [.ref a1, .null, .null, .null, .null, .null, .null, .int (z0 0 7), .int (z0 0 8)])), (a1, .inl (cA, 9, .inl (z0 1)))]) (w0 := [(b2, .inr (1, [.null, .null, .null, .int (z0 2 3)]))]) [2] [0, 1] (fun sz => c_Hp_init l dC dI cA b2 sz) (fun _ _ => trivial) (fun _ _ _ _ _ => trivial) tw_40 tw_41 tw_42 tw_25 rfl (by decide +kernel) (Nat.le_of_ble_eq_true rfl) (Nat.le_of_ble_eq_true rfl) (Nat.le_of_ble_eq_true rfl) (Nat.le_of_ble_eq_true rfl) (Nat.le_of_ble_eq_true rfl) rfl rfl rfl (by decide) (by decide) d_Sh_init_17 rfl (fun adHp uHp hHp => ⟨(fun ν => [(h0, .inr (3, [.ref a1, .null, .null, .null, .null, .null, .null, .int (ν 0 7), .int (ν 0 8)])), (a1, .inl (cA, 9, .inl (ν 1))), (adHp 2, .inr (1, [.ref (adHp 3), .ref (adHp 4), .ref (adHp 5), .int (ν 2 3)])), (adHp 3, .inl (cA, 24, .inl (ν 3))), (adHp 4, .inl (cA, 48, .inl (ν 4))), (adHp 5, .inl (cA, 24, .inl (ν 5)))]), (mixM 2 5 uHp z0), rfl, ?_⟩)
  have eHp := hHp.1
  rw [← eHp]
  refine v_putF 0 (kf := 1) (fun ν => [(h0, .inr (3, [.ref a1, .ref (adHp 2), .null, .null, .null, .null, .null, .int (ν 0 7), .int (ν 0 8)])), (a1, .inl (cA, 9, .inl (ν 1))), (adHp 2, .inr (1, [.ref (adHp 3), .ref (adHp 4), .ref (adHp 5), .int (ν 2 3)])), (adHp 3, .inl (cA, 24, .inl (ν 3))), (adHp 4, .inl (cA, 48, .inl (ν 4))), (adHp 5, .inl (cA, 24, .inl (ν 5)))]) (.object "StampedHeaps$Heap") rfl rfl in_Sh t_Sh t_Sh_ok n_Sh (by decide) ⟨rfl, rfl, rfl, rfl⟩ rfl hmn tw_92 (by decide +kernel) rfl rfl (Nat.le_of_ble_eq_true rfl) rfl d_Sh_init_20 rfl ?_
  refine v_aload_n d_Sh_init_23 rfl rfl ?_
  refine v_newo (ci := 0) (T := F_Xt) (N := 4) (fun ν => [.null, .null, .null, .int (ν 6 3)]) rfl in_Xt t_Xt t_Xt_ok tw_58 tw_59 tw_26 (fun j hj => by rcases (show j = 0 ∨ j = 1 ∨ j = 2 ∨ j = 3 by omega) with rfl | rfl | rfl | rfl <;> rfl) (Nat.le_of_ble_eq_true rfl) (Nat.le_of_ble_eq_true rfl) d_Sh_init_24 rfl (fun b6 => ?_)
  refine v_dup d_Sh_init_27 rfl rfl ?_
  refine v_initN (wr := [(h0, .inr (3, [.ref a1, .ref (adHp 2), .null, .null, .null, .null, .null, .int ((mixM 2 5 uHp z0) 0 7), .int ((mixM 2 5 uHp z0) 0 8)])), (a1, .inl (cA, 9, .inl ((mixM 2 5 uHp z0) 1))), (adHp 2, .inr (1, [.ref (adHp 3), .ref (adHp 4), .ref (adHp 5), .int ((mixM 2 5 uHp z0) 2 3)])), (adHp 3, .inl (cA, 24, .inl ((mixM 2 5 uHp z0) 3))), (adHp 4, .inl (cA, 48, .inl ((mixM 2 5 uHp z0) 4))), (adHp 5, .inl (cA, 24, .inl ((mixM 2 5 uHp z0) 5)))]) (w0 := [(b6, .inr (0, [.null, .null, .null, .int ((mixM 2 5 uHp z0) 6 3)]))]) [6] [0, 1, 2, 3, 4, 5] (fun sz => c_Xt_init l dC dI cA b6 sz) (fun _ _ => trivial) (fun _ _ _ _ _ => trivial) hEx.1 tw_61 tw_62 tw_26 rfl (by decide +kernel) (Nat.le_of_ble_eq_true rfl) (Nat.le_of_ble_eq_true rfl) (Nat.le_of_ble_eq_true rfl) (Nat.le_of_ble_eq_true rfl) (Nat.le_of_ble_eq_true rfl) rfl rfl rfl (by decide) (by decide) d_Sh_init_28 rfl (fun adXt uXt hXt => ⟨(fun ν => [(h0, .inr (3, [.ref a1, .ref (adHp 2), .null, .null, .null, .null, .null, .int (ν 0 7), .int (ν 0 8)])), (a1, .inl (cA, 9, .inl (ν 1))), (adHp 2, .inr (1, [.ref (adHp 3), .ref (adHp 4), .ref (adHp 5), .int (ν 2 3)])), (adHp 3, .inl (cA, 24, .inl (ν 3))), (adHp 4, .inl (cA, 48, .inl (ν 4))), (adHp 5, .inl (cA, 24, .inl (ν 5))), (adXt 6, .inr (0, [.ref (adXt 7), .ref (adXt 8), .ref (adXt 9), .int (ν 6 3)])), (adXt 7, .inl (cA, 105, .inl (ν 7))), (adXt 8, .inl (cA, 105, .inl (ν 8))), (adXt 9, .inl (cA, 105, .inl (ν 9)))]), (mixM 6 9 uXt (mixM 2 5 uHp z0)), rfl, ?_⟩)
  have eXt := hXt.1
  rw [← eXt]
  refine v_putF 0 (kf := 2) (fun ν => [(h0, .inr (3, [.ref a1, .ref (adHp 2), .ref (adXt 6), .null, .null, .null, .null, .int (ν 0 7), .int (ν 0 8)])), (a1, .inl (cA, 9, .inl (ν 1))), (adHp 2, .inr (1, [.ref (adHp 3), .ref (adHp 4), .ref (adHp 5), .int (ν 2 3)])), (adHp 3, .inl (cA, 24, .inl (ν 3))), (adHp 4, .inl (cA, 48, .inl (ν 4))), (adHp 5, .inl (cA, 24, .inl (ν 5))), (adXt 6, .inr (0, [.ref (adXt 7), .ref (adXt 8), .ref (adXt 9), .int (ν 6 3)])), (adXt 7, .inl (cA, 105, .inl (ν 7))), (adXt 8, .inl (cA, 105, .inl (ν 8))), (adXt 9, .inl (cA, 105, .inl (ν 9)))]) (.object "StampedHeaps$Exits") rfl rfl in_Sh t_Sh t_Sh_ok n_Sh (by decide) ⟨rfl, rfl, rfl, rfl⟩ rfl hmn tw_93 (by decide +kernel) rfl rfl (Nat.le_of_ble_eq_true rfl) rfl d_Sh_init_31 rfl ?_
  refine v_aload_n d_Sh_init_34 rfl rfl ?_
  refine v_newo (ci := 2) (T := F_Qu) (N := 2) (fun ν => [.null, .int (ν 10 1)]) rfl in_Qu t_Qu t_Qu_ok tw_77 tw_78 tw_27 (fun j hj => by rcases (show j = 0 ∨ j = 1 by omega) with rfl | rfl <;> rfl) (Nat.le_of_ble_eq_true rfl) (Nat.le_of_ble_eq_true rfl) d_Sh_init_35 rfl (fun b10 => ?_)
  refine v_dup d_Sh_init_38 rfl rfl ?_
  refine v_initN (wr := [(h0, .inr (3, [.ref a1, .ref (adHp 2), .ref (adXt 6), .null, .null, .null, .null, .int ((mixM 6 9 uXt (mixM 2 5 uHp z0)) 0 7), .int ((mixM 6 9 uXt (mixM 2 5 uHp z0)) 0 8)])), (a1, .inl (cA, 9, .inl ((mixM 6 9 uXt (mixM 2 5 uHp z0)) 1))), (adHp 2, .inr (1, [.ref (adHp 3), .ref (adHp 4), .ref (adHp 5), .int ((mixM 6 9 uXt (mixM 2 5 uHp z0)) 2 3)])), (adHp 3, .inl (cA, 24, .inl ((mixM 6 9 uXt (mixM 2 5 uHp z0)) 3))), (adHp 4, .inl (cA, 48, .inl ((mixM 6 9 uXt (mixM 2 5 uHp z0)) 4))), (adHp 5, .inl (cA, 24, .inl ((mixM 6 9 uXt (mixM 2 5 uHp z0)) 5))), (adXt 6, .inr (0, [.ref (adXt 7), .ref (adXt 8), .ref (adXt 9), .int ((mixM 6 9 uXt (mixM 2 5 uHp z0)) 6 3)])), (adXt 7, .inl (cA, 105, .inl ((mixM 6 9 uXt (mixM 2 5 uHp z0)) 7))), (adXt 8, .inl (cA, 105, .inl ((mixM 6 9 uXt (mixM 2 5 uHp z0)) 8))), (adXt 9, .inl (cA, 105, .inl ((mixM 6 9 uXt (mixM 2 5 uHp z0)) 9)))]) (w0 := [(b10, .inr (2, [.null, .int ((mixM 6 9 uXt (mixM 2 5 uHp z0)) 10 1)]))]) [10] [0, 1, 2, 3, 4, 5, 6, 7, 8, 9] (fun sz => c_Qu_init l dC dI cA b10 sz) (fun _ _ => trivial) (fun _ _ _ _ _ => trivial) hEx.2 tw_80 tw_81 tw_27 rfl (by decide +kernel) (Nat.le_of_ble_eq_true rfl) (Nat.le_of_ble_eq_true rfl) (Nat.le_of_ble_eq_true rfl) (Nat.le_of_ble_eq_true rfl) (Nat.le_of_ble_eq_true rfl) rfl rfl rfl (by decide) (by decide) d_Sh_init_39 rfl (fun adQu uQu hQu => ⟨(fun ν => [(h0, .inr (3, [.ref a1, .ref (adHp 2), .ref (adXt 6), .null, .null, .null, .null, .int (ν 0 7), .int (ν 0 8)])), (a1, .inl (cA, 9, .inl (ν 1))), (adHp 2, .inr (1, [.ref (adHp 3), .ref (adHp 4), .ref (adHp 5), .int (ν 2 3)])), (adHp 3, .inl (cA, 24, .inl (ν 3))), (adHp 4, .inl (cA, 48, .inl (ν 4))), (adHp 5, .inl (cA, 24, .inl (ν 5))), (adXt 6, .inr (0, [.ref (adXt 7), .ref (adXt 8), .ref (adXt 9), .int (ν 6 3)])), (adXt 7, .inl (cA, 105, .inl (ν 7))), (adXt 8, .inl (cA, 105, .inl (ν 8))), (adXt 9, .inl (cA, 105, .inl (ν 9))), (adQu 10, .inr (2, [.ref (adQu 11), .int (ν 10 1)])), (adQu 11, .inl (cA, 160, .inl (ν 11)))]), (mixM 10 11 uQu (mixM 6 9 uXt (mixM 2 5 uHp z0))), rfl, ?_⟩)
  have eQu := hQu.1
  rw [← eQu]
  refine v_putF 0 (kf := 3) (fun ν => [(h0, .inr (3, [.ref a1, .ref (adHp 2), .ref (adXt 6), .ref (adQu 10), .null, .null, .null, .int (ν 0 7), .int (ν 0 8)])), (a1, .inl (cA, 9, .inl (ν 1))), (adHp 2, .inr (1, [.ref (adHp 3), .ref (adHp 4), .ref (adHp 5), .int (ν 2 3)])), (adHp 3, .inl (cA, 24, .inl (ν 3))), (adHp 4, .inl (cA, 48, .inl (ν 4))), (adHp 5, .inl (cA, 24, .inl (ν 5))), (adXt 6, .inr (0, [.ref (adXt 7), .ref (adXt 8), .ref (adXt 9), .int (ν 6 3)])), (adXt 7, .inl (cA, 105, .inl (ν 7))), (adXt 8, .inl (cA, 105, .inl (ν 8))), (adXt 9, .inl (cA, 105, .inl (ν 9))), (adQu 10, .inr (2, [.ref (adQu 11), .int (ν 10 1)])), (adQu 11, .inl (cA, 160, .inl (ν 11)))]) (.object "StampedHeaps$Queue") rfl rfl in_Sh t_Sh t_Sh_ok n_Sh (by decide) ⟨rfl, rfl, rfl, rfl⟩ rfl hmn tw_94 (by decide +kernel) rfl rfl (Nat.le_of_ble_eq_true rfl) rfl d_Sh_init_42 rfl ?_
  refine v_aload_n d_Sh_init_45 rfl rfl ?_
  refine v_iconst 3 d_Sh_init_46 (by decide) rfl ?_
  refine v_newa 12 3 (by decide) (by decide) tw_57 rfl (by decide) (Nat.le_of_ble_eq_true rfl) (Nat.le_of_ble_eq_true rfl) d_Sh_init_47 rfl (fun a12 => ?_)
  refine v_putF 0 (kf := 4) (fun ν => [(h0, .inr (3, [.ref a1, .ref (adHp 2), .ref (adXt 6), .ref (adQu 10), .ref a12, .null, .null, .int (ν 0 7), .int (ν 0 8)])), (a1, .inl (cA, 9, .inl (ν 1))), (adHp 2, .inr (1, [.ref (adHp 3), .ref (adHp 4), .ref (adHp 5), .int (ν 2 3)])), (adHp 3, .inl (cA, 24, .inl (ν 3))), (adHp 4, .inl (cA, 48, .inl (ν 4))), (adHp 5, .inl (cA, 24, .inl (ν 5))), (adXt 6, .inr (0, [.ref (adXt 7), .ref (adXt 8), .ref (adXt 9), .int (ν 6 3)])), (adXt 7, .inl (cA, 105, .inl (ν 7))), (adXt 8, .inl (cA, 105, .inl (ν 8))), (adXt 9, .inl (cA, 105, .inl (ν 9))), (adQu 10, .inr (2, [.ref (adQu 11), .int (ν 10 1)])), (adQu 11, .inl (cA, 160, .inl (ν 11))), (a12, .inl (cA, 3, .inl (ν 12)))]) (.array .int) rfl rfl in_Sh t_Sh t_Sh_ok n_Sh (by decide) ⟨rfl, rfl, rfl, rfl⟩ rfl hmn tw_95 (by decide +kernel) rfl rfl (Nat.le_of_ble_eq_true rfl) rfl d_Sh_init_49 rfl ?_
  refine v_aload_n d_Sh_init_52 rfl rfl ?_
  refine v_iconst 3 d_Sh_init_53 (by decide) rfl ?_
  refine v_newa 13 3 (by decide) (by decide) tw_57 rfl (by decide) (Nat.le_of_ble_eq_true rfl) (Nat.le_of_ble_eq_true rfl) d_Sh_init_54 rfl (fun a13 => ?_)
  refine v_putF 0 (kf := 5) (fun ν => [(h0, .inr (3, [.ref a1, .ref (adHp 2), .ref (adXt 6), .ref (adQu 10), .ref a12, .ref a13, .null, .int (ν 0 7), .int (ν 0 8)])), (a1, .inl (cA, 9, .inl (ν 1))), (adHp 2, .inr (1, [.ref (adHp 3), .ref (adHp 4), .ref (adHp 5), .int (ν 2 3)])), (adHp 3, .inl (cA, 24, .inl (ν 3))), (adHp 4, .inl (cA, 48, .inl (ν 4))), (adHp 5, .inl (cA, 24, .inl (ν 5))), (adXt 6, .inr (0, [.ref (adXt 7), .ref (adXt 8), .ref (adXt 9), .int (ν 6 3)])), (adXt 7, .inl (cA, 105, .inl (ν 7))), (adXt 8, .inl (cA, 105, .inl (ν 8))), (adXt 9, .inl (cA, 105, .inl (ν 9))), (adQu 10, .inr (2, [.ref (adQu 11), .int (ν 10 1)])), (adQu 11, .inl (cA, 160, .inl (ν 11))), (a12, .inl (cA, 3, .inl (ν 12))), (a13, .inl (cA, 3, .inl (ν 13)))]) (.array .int) rfl rfl in_Sh t_Sh t_Sh_ok n_Sh (by decide) ⟨rfl, rfl, rfl, rfl⟩ rfl hmn tw_96 (by decide +kernel) rfl rfl (Nat.le_of_ble_eq_true rfl) rfl d_Sh_init_56 rfl ?_
  refine v_aload_n d_Sh_init_59 rfl rfl ?_
  refine v_bipush 24 d_Sh_init_60 (by decide) rfl ?_
  refine v_newa 14 24 (by decide) (by decide) tw_57 rfl (by decide) (Nat.le_of_ble_eq_true rfl) (Nat.le_of_ble_eq_true rfl) d_Sh_init_62 rfl (fun a14 => ?_)
  refine v_putF 0 (kf := 6) (fun ν => [(h0, .inr (3, [.ref a1, .ref (adHp 2), .ref (adXt 6), .ref (adQu 10), .ref a12, .ref a13, .ref a14, .int (ν 0 7), .int (ν 0 8)])), (a1, .inl (cA, 9, .inl (ν 1))), (adHp 2, .inr (1, [.ref (adHp 3), .ref (adHp 4), .ref (adHp 5), .int (ν 2 3)])), (adHp 3, .inl (cA, 24, .inl (ν 3))), (adHp 4, .inl (cA, 48, .inl (ν 4))), (adHp 5, .inl (cA, 24, .inl (ν 5))), (adXt 6, .inr (0, [.ref (adXt 7), .ref (adXt 8), .ref (adXt 9), .int (ν 6 3)])), (adXt 7, .inl (cA, 105, .inl (ν 7))), (adXt 8, .inl (cA, 105, .inl (ν 8))), (adXt 9, .inl (cA, 105, .inl (ν 9))), (adQu 10, .inr (2, [.ref (adQu 11), .int (ν 10 1)])), (adQu 11, .inl (cA, 160, .inl (ν 11))), (a12, .inl (cA, 3, .inl (ν 12))), (a13, .inl (cA, 3, .inl (ν 13))), (a14, .inl (cA, 24, .inl (ν 14)))]) (.array .int) rfl rfl in_Sh t_Sh t_Sh_ok n_Sh (by decide) ⟨rfl, rfl, rfl, rfl⟩ rfl hmn tw_97 (by decide +kernel) rfl rfl (Nat.le_of_ble_eq_true rfl) rfl d_Sh_init_64 rfl ?_
  refine v_iconst 0 d_Sh_init_67 (by decide) rfl ?_
  refine v_istore_n (lo' := [_, _]) d_Sh_init_68 rfl (by decide) rfl ?_
  have L : ∀ (d i : Nat) (u : Mem), i + d = 3 → (∀ q, ¬ q = 13 → u q = (mixM 10 11 uQu (mixM 6 9 uXt (mixM 2 5 uHp z0))) q) → (∀ j, j < i → u 13 j = 2147483647) → VJ p l e 2 14 620 33 s m args below meth c 14 620 Q A b_Sh_init 2 R_Sh (dC, dI) cA (fun ν => [(h0, .inr (3, [.ref a1, .ref (adHp 2), .ref (adXt 6), .ref (adQu 10), .ref a12, .ref a13, .ref a14, .int (ν 0 7), .int (ν 0 8)])), (a1, .inl (cA, 9, .inl (ν 1))), (adHp 2, .inr (1, [.ref (adHp 3), .ref (adHp 4), .ref (adHp 5), .int (ν 2 3)])), (adHp 3, .inl (cA, 24, .inl (ν 3))), (adHp 4, .inl (cA, 48, .inl (ν 4))), (adHp 5, .inl (cA, 24, .inl (ν 5))), (adXt 6, .inr (0, [.ref (adXt 7), .ref (adXt 8), .ref (adXt 9), .int (ν 6 3)])), (adXt 7, .inl (cA, 105, .inl (ν 7))), (adXt 8, .inl (cA, 105, .inl (ν 8))), (adXt 9, .inl (cA, 105, .inl (ν 9))), (adQu 10, .inr (2, [.ref (adQu 11), .int (ν 10 1)])), (adQu 11, .inl (cA, 160, .inl (ν 11))), (a12, .inl (cA, 3, .inl (ν 12))), (a13, .inl (cA, 3, .inl (ν 13))), (a14, .inl (cA, 24, .inl (ν 14)))]) 69 [some (.ref h0), some (.int (nI i))] [] u := by
    intro d
    induction d with
    | zero =>
      intro i u hi hu hv
      refine v_iload_n d_Sh_init_69 rfl rfl ?_
      refine v_iconst 3 d_Sh_init_70 (by decide) rfl ?_
      refine v_icmp_ge 88 d_Sh_init_71 (by decide) rfl (fun c => ?_) (fun c => absurd (show nI 3 ≤ nI i from nI_le (by omega) (by omega)) c)
      exact ret (fun ν => [(h0, .inr (3, [.ref a1, .ref (adHp 2), .ref (adXt 6), .ref (adQu 10), .ref a12, .ref a13, .ref a14, .int (ν 0 7), .int (ν 0 8)])), (a1, .inl (cA, 9, .inl (ν 1))), (adHp 2, .inr (1, [.ref (adHp 3), .ref (adHp 4), .ref (adHp 5), .int (ν 2 3)])), (adHp 3, .inl (cA, 24, .inl (ν 3))), (adHp 4, .inl (cA, 48, .inl (ν 4))), (adHp 5, .inl (cA, 24, .inl (ν 5))), (adXt 6, .inr (0, [.ref (adXt 7), .ref (adXt 8), .ref (adXt 9), .int (ν 6 3)])), (adXt 7, .inl (cA, 105, .inl (ν 7))), (adXt 8, .inl (cA, 105, .inl (ν 8))), (adXt 9, .inl (cA, 105, .inl (ν 9))), (adQu 10, .inr (2, [.ref (adQu 11), .int (ν 10 1)])), (adQu 11, .inl (cA, 160, .inl (ν 11))), (a12, .inl (cA, 3, .inl (ν 12))), (a13, .inl (cA, 3, .inl (ν 13))), (a14, .inl (cA, 24, .inl (ν 14)))]) u (fun k => if k = 0 then h0 else if k = 1 then a1 else if k = 2 then adHp 2 else if k = 3 then adHp 3 else if k = 4 then adHp 4 else if k = 5 then adHp 5 else if k = 6 then adXt 6 else if k = 7 then adXt 7 else if k = 8 then adXt 8 else if k = 9 then adXt 9 else if k = 10 then adQu 10 else if k = 11 then adQu 11 else if k = 12 then a12 else if k = 13 then a13 else a14) u [0, 1, 2, 3, 4, 5, 6, 7, 8, 9, 10, 11, 12, 13, 14] _ _ ⟨rfl, fun q h1 h2 => (hu q h2).trans (mix_zero h1 hHp.2.1 hXt.2 hQu.2), fun j hj => by rw [hu 5 (by decide)]; exact hHp.2.2 j hj, fun j hj => hv j (by omega)⟩ (by decide) rfl d_Sh_init_88
    | succ d ih =>
      intro i u hi hu hv
      refine v_iload_n d_Sh_init_69 rfl rfl ?_
      refine v_iconst 3 d_Sh_init_70 (by decide) rfl ?_
      refine v_icmp_ge 88 d_Sh_init_71 (by decide) rfl (fun c => absurd c (show ¬ nI 3 ≤ nI i from nI_ge (by omega) (by omega))) (fun c => ?_)
      refine v_aload_n d_Sh_init_74 rfl rfl ?_
      refine v_get 0 (kf := 5) rfl rfl in_Sh (by decide) ⟨rfl, rfl, rfl⟩ tw_96 rfl d_Sh_init_75 rfl ?_
      refine v_iload_n d_Sh_init_78 rfl rfl ?_
      refine v_ldc tw_90 d_Sh_init_79 rfl ?_
      refine v_ast 13 (μ2 := stM u 13 (nI i).toNatClampNeg 2147483647) rfl rfl rfl d_Sh_init_81 (vp_in_nI (show i < 3 by omega) (by omega)) rfl ?_
      refine v_iinc (lo' := [_, _]) 1 d_Sh_init_82 (by decide) rfl rfl (by decide) rfl ?_
      refine v_goto 69 d_Sh_init_85 (by decide) ?_
      have e1 : nI i + 1 = nI (i + 1) := nI_1 i
      rw [e1]
      refine ih (i + 1) _ (by omega) (fun q hq => by rw [stM_ne hq]; exact hu q hq) (fun j hj => ?_)
      rw [nI_clamp (by omega), stM_eq]
      by_cases hji : j = i
      · rw [hji]; exact pk_us
      · rw [pk_un hji]; exact hv j (by omega)
  exact L 3 0 (mixM 10 11 uQu (mixM 6 9 uXt (mixM 2 5 uHp z0))) rfl (fun _ _ => rfl) (fun j hj => absurd hj (Nat.not_lt_zero j))
set_option maxHeartbeats 4000000 in
set_option maxRecDepth 100000 in
theorem c_Md_init (l : Launch) (dC : Nat → ClassId) (dI : Nat → Nat → Nat) (cA : ClassId) (h0 sz : Nat) : CtN l y_Md_init (Cond.code y_Md_init b_Md_init 2 none :: lw_gd) 1 12 9 4519 (dC, dI) cA h0 [(h0, .inr (4, [.int (z0 15 0), .int (z0 15 1), .null, .null, .null, .null, .null, .null, .null, .int (z0 15 9), .int (z0 15 10), .null, .null]))] sz (fun _ => True) (fun ad u => ad 15 = h0 ∧ (∀ q, ¬ q = 22 → u q = fun _ => 0) ∧ ∀ j, j < 3 → u 22 j = 2147483647) (fun ad u => w_Md ad cA u) := by
  refine v_metN (own := R_Md) (wf := (fun ν : Mem => [(h0, .inr (4, [.int (ν 15 0), .int (ν 15 1), .null, .null, .null, .null, .null, .null, .null, .int (ν 15 9), .int (ν 15 10), .null, .null]))])) (μ := z0) [some (.ref h0), none] rfl rfl (by decide) (Nat.le_of_ble_eq_true rfl) rfl ?_
  intro p e s m args below meth c A Q hmn hEx ret
  refine v_aload_n d_Md_init_0 rfl rfl ?_
  refine v_obj tw_389 tw_36 tw_37 (Nat.le_of_ble_eq_true rfl) (Nat.le_of_ble_eq_true rfl) d_Md_init_1 rfl ?_
  refine v_aload_n d_Md_init_4 rfl rfl ?_
  refine v_sipush 513 d_Md_init_5 (by decide) rfl ?_
  refine v_newa 16 513 (by decide) (by decide) tw_57 rfl (by decide) (Nat.le_of_ble_eq_true rfl) (Nat.le_of_ble_eq_true rfl) d_Md_init_8 rfl (fun a16 => ?_)
  refine v_putR 0 (kf := 2) (fun ν => [(h0, .inr (4, [.int (ν 15 0), .int (ν 15 1), .ref a16, .null, .null, .null, .null, .null, .null, .int (ν 15 9), .int (ν 15 10), .null, .null])), (a16, .inl (cA, 513, .inl (ν 16)))]) (.array .int) rfl rfl in_Md t_Md t_Md_ok n_Md (by decide) ⟨rfl, rfl, rfl, rfl⟩ tw_393 (by decide +kernel) rfl rfl (Nat.le_of_ble_eq_true rfl) rfl d_Md_init_10 rfl ?_
  refine v_aload_n d_Md_init_13 rfl rfl ?_
  refine v_sipush 513 d_Md_init_14 (by decide) rfl ?_
  refine v_newa 17 513 (by decide) (by decide) tw_57 rfl (by decide) (Nat.le_of_ble_eq_true rfl) (Nat.le_of_ble_eq_true rfl) d_Md_init_17 rfl (fun a17 => ?_)
  refine v_putR 0 (kf := 3) (fun ν => [(h0, .inr (4, [.int (ν 15 0), .int (ν 15 1), .ref a16, .ref a17, .null, .null, .null, .null, .null, .int (ν 15 9), .int (ν 15 10), .null, .null])), (a16, .inl (cA, 513, .inl (ν 16))), (a17, .inl (cA, 513, .inl (ν 17)))]) (.array .int) rfl rfl in_Md t_Md t_Md_ok n_Md (by decide) ⟨rfl, rfl, rfl, rfl⟩ tw_394 (by decide +kernel) rfl rfl (Nat.le_of_ble_eq_true rfl) rfl d_Md_init_19 rfl ?_
  refine v_aload_n d_Md_init_22 rfl rfl ?_
  refine v_sipush 1026 d_Md_init_23 (by decide) rfl ?_
  refine v_newa 18 1026 (by decide) (by decide) tw_57 rfl (by decide) (Nat.le_of_ble_eq_true rfl) (Nat.le_of_ble_eq_true rfl) d_Md_init_26 rfl (fun a18 => ?_)
  refine v_putR 0 (kf := 4) (fun ν => [(h0, .inr (4, [.int (ν 15 0), .int (ν 15 1), .ref a16, .ref a17, .ref a18, .null, .null, .null, .null, .int (ν 15 9), .int (ν 15 10), .null, .null])), (a16, .inl (cA, 513, .inl (ν 16))), (a17, .inl (cA, 513, .inl (ν 17))), (a18, .inl (cA, 1026, .inl (ν 18)))]) (.array .int) rfl rfl in_Md t_Md t_Md_ok n_Md (by decide) ⟨rfl, rfl, rfl, rfl⟩ tw_395 (by decide +kernel) rfl rfl (Nat.le_of_ble_eq_true rfl) rfl d_Md_init_28 rfl ?_
  refine v_aload_n d_Md_init_31 rfl rfl ?_
  refine v_bipush 9 d_Md_init_32 (by decide) rfl ?_
  refine v_newa 19 9 (by decide) (by decide) tw_57 rfl (by decide) (Nat.le_of_ble_eq_true rfl) (Nat.le_of_ble_eq_true rfl) d_Md_init_34 rfl (fun a19 => ?_)
  refine v_putR 0 (kf := 5) (fun ν => [(h0, .inr (4, [.int (ν 15 0), .int (ν 15 1), .ref a16, .ref a17, .ref a18, .ref a19, .null, .null, .null, .int (ν 15 9), .int (ν 15 10), .null, .null])), (a16, .inl (cA, 513, .inl (ν 16))), (a17, .inl (cA, 513, .inl (ν 17))), (a18, .inl (cA, 1026, .inl (ν 18))), (a19, .inl (cA, 9, .inl (ν 19)))]) (.array .int) rfl rfl in_Md t_Md t_Md_ok n_Md (by decide) ⟨rfl, rfl, rfl, rfl⟩ tw_396 (by decide +kernel) rfl rfl (Nat.le_of_ble_eq_true rfl) rfl d_Md_init_36 rfl ?_
  refine v_aload_n d_Md_init_39 rfl rfl ?_
  refine v_sipush 1539 d_Md_init_40 (by decide) rfl ?_
  refine v_newa 20 1539 (by decide) (by decide) tw_57 rfl (by decide) (Nat.le_of_ble_eq_true rfl) (Nat.le_of_ble_eq_true rfl) d_Md_init_43 rfl (fun a20 => ?_)
  refine v_putR 0 (kf := 6) (fun ν => [(h0, .inr (4, [.int (ν 15 0), .int (ν 15 1), .ref a16, .ref a17, .ref a18, .ref a19, .ref a20, .null, .null, .int (ν 15 9), .int (ν 15 10), .null, .null])), (a16, .inl (cA, 513, .inl (ν 16))), (a17, .inl (cA, 513, .inl (ν 17))), (a18, .inl (cA, 1026, .inl (ν 18))), (a19, .inl (cA, 9, .inl (ν 19))), (a20, .inl (cA, 1539, .inl (ν 20)))]) (.array .int) rfl rfl in_Md t_Md t_Md_ok n_Md (by decide) ⟨rfl, rfl, rfl, rfl⟩ tw_397 (by decide +kernel) rfl rfl (Nat.le_of_ble_eq_true rfl) rfl d_Md_init_45 rfl ?_
  refine v_aload_n d_Md_init_48 rfl rfl ?_
  refine v_iconst 3 d_Md_init_49 (by decide) rfl ?_
  refine v_newa 21 3 (by decide) (by decide) tw_57 rfl (by decide) (Nat.le_of_ble_eq_true rfl) (Nat.le_of_ble_eq_true rfl) d_Md_init_50 rfl (fun a21 => ?_)
  refine v_putR 0 (kf := 7) (fun ν => [(h0, .inr (4, [.int (ν 15 0), .int (ν 15 1), .ref a16, .ref a17, .ref a18, .ref a19, .ref a20, .ref a21, .null, .int (ν 15 9), .int (ν 15 10), .null, .null])), (a16, .inl (cA, 513, .inl (ν 16))), (a17, .inl (cA, 513, .inl (ν 17))), (a18, .inl (cA, 1026, .inl (ν 18))), (a19, .inl (cA, 9, .inl (ν 19))), (a20, .inl (cA, 1539, .inl (ν 20))), (a21, .inl (cA, 3, .inl (ν 21)))]) (.array .int) rfl rfl in_Md t_Md t_Md_ok n_Md (by decide) ⟨rfl, rfl, rfl, rfl⟩ tw_398 (by decide +kernel) rfl rfl (Nat.le_of_ble_eq_true rfl) rfl d_Md_init_52 rfl ?_
  refine v_aload_n d_Md_init_55 rfl rfl ?_
  refine v_iconst 3 d_Md_init_56 (by decide) rfl ?_
  refine v_newa 22 3 (by decide) (by decide) tw_57 rfl (by decide) (Nat.le_of_ble_eq_true rfl) (Nat.le_of_ble_eq_true rfl) d_Md_init_57 rfl (fun a22 => ?_)
  refine v_putR 0 (kf := 8) (fun ν => [(h0, .inr (4, [.int (ν 15 0), .int (ν 15 1), .ref a16, .ref a17, .ref a18, .ref a19, .ref a20, .ref a21, .ref a22, .int (ν 15 9), .int (ν 15 10), .null, .null])), (a16, .inl (cA, 513, .inl (ν 16))), (a17, .inl (cA, 513, .inl (ν 17))), (a18, .inl (cA, 1026, .inl (ν 18))), (a19, .inl (cA, 9, .inl (ν 19))), (a20, .inl (cA, 1539, .inl (ν 20))), (a21, .inl (cA, 3, .inl (ν 21))), (a22, .inl (cA, 3, .inl (ν 22)))]) (.array .int) rfl rfl in_Md t_Md t_Md_ok n_Md (by decide) ⟨rfl, rfl, rfl, rfl⟩ tw_399 (by decide +kernel) rfl rfl (Nat.le_of_ble_eq_true rfl) rfl d_Md_init_59 rfl ?_
  refine v_aload_n d_Md_init_62 rfl rfl ?_
  refine v_sipush 400 d_Md_init_63 (by decide) rfl ?_
  refine v_newa 23 400 (by decide) (by decide) tw_57 rfl (by decide) (Nat.le_of_ble_eq_true rfl) (Nat.le_of_ble_eq_true rfl) d_Md_init_66 rfl (fun a23 => ?_)
  refine v_putR 0 (kf := 11) (fun ν => [(h0, .inr (4, [.int (ν 15 0), .int (ν 15 1), .ref a16, .ref a17, .ref a18, .ref a19, .ref a20, .ref a21, .ref a22, .int (ν 15 9), .int (ν 15 10), .ref a23, .null])), (a16, .inl (cA, 513, .inl (ν 16))), (a17, .inl (cA, 513, .inl (ν 17))), (a18, .inl (cA, 1026, .inl (ν 18))), (a19, .inl (cA, 9, .inl (ν 19))), (a20, .inl (cA, 1539, .inl (ν 20))), (a21, .inl (cA, 3, .inl (ν 21))), (a22, .inl (cA, 3, .inl (ν 22))), (a23, .inl (cA, 400, .inl (ν 23)))]) (.array .int) rfl rfl in_Md t_Md t_Md_ok n_Md (by decide) ⟨rfl, rfl, rfl, rfl⟩ tw_402 (by decide +kernel) rfl rfl (Nat.le_of_ble_eq_true rfl) rfl d_Md_init_68 rfl ?_
  refine v_aload_n d_Md_init_71 rfl rfl ?_
  refine v_sipush 513 d_Md_init_72 (by decide) rfl ?_
  refine v_newa 24 513 (by decide) (by decide) tw_57 rfl (by decide) (Nat.le_of_ble_eq_true rfl) (Nat.le_of_ble_eq_true rfl) d_Md_init_75 rfl (fun a24 => ?_)
  refine v_putR 0 (kf := 12) (fun ν => [(h0, .inr (4, [.int (ν 15 0), .int (ν 15 1), .ref a16, .ref a17, .ref a18, .ref a19, .ref a20, .ref a21, .ref a22, .int (ν 15 9), .int (ν 15 10), .ref a23, .ref a24])), (a16, .inl (cA, 513, .inl (ν 16))), (a17, .inl (cA, 513, .inl (ν 17))), (a18, .inl (cA, 1026, .inl (ν 18))), (a19, .inl (cA, 9, .inl (ν 19))), (a20, .inl (cA, 1539, .inl (ν 20))), (a21, .inl (cA, 3, .inl (ν 21))), (a22, .inl (cA, 3, .inl (ν 22))), (a23, .inl (cA, 400, .inl (ν 23))), (a24, .inl (cA, 513, .inl (ν 24)))]) (.array .int) rfl rfl in_Md t_Md t_Md_ok n_Md (by decide) ⟨rfl, rfl, rfl, rfl⟩ tw_403 (by decide +kernel) rfl rfl (Nat.le_of_ble_eq_true rfl) rfl d_Md_init_77 rfl ?_
  refine v_iconst 0 d_Md_init_80 (by decide) rfl ?_
  refine v_istore_n (lo' := [_, _]) d_Md_init_81 rfl (by decide) rfl ?_
  have L : ∀ (d i : Nat) (u : Mem), i + d = 3 → (∀ q, ¬ q = 22 → u q = z0 q) → (∀ j, j < i → u 22 j = 2147483647) → VJ p l e 1 9 4519 12 s m args below meth c 9 4519 Q A b_Md_init 2 R_Md (dC, dI) cA (fun ν => [(h0, .inr (4, [.int (ν 15 0), .int (ν 15 1), .ref a16, .ref a17, .ref a18, .ref a19, .ref a20, .ref a21, .ref a22, .int (ν 15 9), .int (ν 15 10), .ref a23, .ref a24])), (a16, .inl (cA, 513, .inl (ν 16))), (a17, .inl (cA, 513, .inl (ν 17))), (a18, .inl (cA, 1026, .inl (ν 18))), (a19, .inl (cA, 9, .inl (ν 19))), (a20, .inl (cA, 1539, .inl (ν 20))), (a21, .inl (cA, 3, .inl (ν 21))), (a22, .inl (cA, 3, .inl (ν 22))), (a23, .inl (cA, 400, .inl (ν 23))), (a24, .inl (cA, 513, .inl (ν 24)))]) 82 [some (.ref h0), some (.int (nI i))] [] u := by
    intro d
    induction d with
    | zero =>
      intro i u hi hu hv
      refine v_iload_n d_Md_init_82 rfl rfl ?_
      refine v_iconst 3 d_Md_init_83 (by decide) rfl ?_
      refine v_icmp_ge 101 d_Md_init_84 (by decide) rfl (fun c => ?_) (fun c => absurd (show nI 3 ≤ nI i from nI_le (by omega) (by omega)) c)
      exact ret (fun ν => [(h0, .inr (4, [.int (ν 15 0), .int (ν 15 1), .ref a16, .ref a17, .ref a18, .ref a19, .ref a20, .ref a21, .ref a22, .int (ν 15 9), .int (ν 15 10), .ref a23, .ref a24])), (a16, .inl (cA, 513, .inl (ν 16))), (a17, .inl (cA, 513, .inl (ν 17))), (a18, .inl (cA, 1026, .inl (ν 18))), (a19, .inl (cA, 9, .inl (ν 19))), (a20, .inl (cA, 1539, .inl (ν 20))), (a21, .inl (cA, 3, .inl (ν 21))), (a22, .inl (cA, 3, .inl (ν 22))), (a23, .inl (cA, 400, .inl (ν 23))), (a24, .inl (cA, 513, .inl (ν 24)))]) u (fun k => if k = 15 then h0 else if k = 16 then a16 else if k = 17 then a17 else if k = 18 then a18 else if k = 19 then a19 else if k = 20 then a20 else if k = 21 then a21 else if k = 22 then a22 else if k = 23 then a23 else a24) u [0, 1, 2, 3, 4, 5, 6, 7, 8, 9] _ _ ⟨rfl, fun q hq => (hu q hq).trans rfl, fun j hj => hv j (by omega)⟩ (by decide) rfl d_Md_init_101
    | succ d ih =>
      intro i u hi hu hv
      refine v_iload_n d_Md_init_82 rfl rfl ?_
      refine v_iconst 3 d_Md_init_83 (by decide) rfl ?_
      refine v_icmp_ge 101 d_Md_init_84 (by decide) rfl (fun c => absurd c (show ¬ nI 3 ≤ nI i from nI_ge (by omega) (by omega))) (fun c => ?_)
      refine v_aload_n d_Md_init_87 rfl rfl ?_
      refine v_get 0 (kf := 8) rfl rfl in_Md (by decide) ⟨rfl, rfl, rfl⟩ tw_399 rfl d_Md_init_88 rfl ?_
      refine v_iload_n d_Md_init_91 rfl rfl ?_
      refine v_ldc tw_390 d_Md_init_92 rfl ?_
      refine v_ast 7 (μ2 := stM u 22 (nI i).toNatClampNeg 2147483647) rfl rfl rfl d_Md_init_94 (vp_in_nI (show i < 3 by omega) (by omega)) rfl ?_
      refine v_iinc (lo' := [_, _]) 1 d_Md_init_95 (by decide) rfl rfl (by decide) rfl ?_
      refine v_goto 82 d_Md_init_98 (by decide) ?_
      have e1 : nI i + 1 = nI (i + 1) := nI_1 i
      rw [e1]
      refine ih (i + 1) _ (by omega) (fun q hq => by rw [stM_ne hq]; exact hu q hq) (fun j hj => ?_)
      rw [nI_clamp (by omega), stM_eq]
      by_cases hji : j = i
      · rw [hji]; exact pk_us
      · rw [pk_un hji]; exact hv j (by omega)
  exact L 3 0 z0 rfl (fun _ _ => rfl) (fun j hj => absurd hj (Nat.not_lt_zero j))
