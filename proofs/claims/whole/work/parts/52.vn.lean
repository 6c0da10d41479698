/-! Constructors: rows that make cells, and contracts of constructors. -/
section VN
variable {p : Program} {l : Launch} {e : Env} {fr rc rs rl : Nat} {s : State} {m : MethodId} {args : Array Value} {below : List Frame} {meth : Method} {c : Code} {cells slots : Nat} {Q : State → Prop} {A : Nat → Prop} {cc : ByteArray} {nL : Nat} {own : String} {D : va_G} {cA : ClassId} {wf : Mem → va_W}
variable {pc q : Nat} {lo : List (Option Value)} {st rest : List Value} {μ : Mem}
theorem v_newa (Q0 n : Nat) {x : Int32} (hx0 : ¬ x < 0) (hN : x.toNatClampNeg = n) (hw : (.arrayClass .int : Cond) ∈ lw_gd) (hz : μ Q0 = fun _ => 0) (hby : n * componentBytes .int ≤ 536870912) (hc1 : cells + 1 ≤ rc) (hs1 : slots + n ≤ rs) (hd : decode cc pc = .ok (.newarray .int, 2)) (hq : pc + 2 = q) (k : ∀ a : Nat, VJ p l e fr rc rs rl s m args below meth c (cells + 1) (slots + n) Q A cc nL own D cA (fun ν => wf ν ++ [(a, .inl (cA, n, .inl (ν Q0)))]) q lo (.ref a :: rest) μ) : VJ p l e fr rc rs rl s m args below meth c cells slots Q A cc nL own D cA wf pc lo (.int x :: rest) μ := by
  subst hq
  intro hx hb hml hown hts hA hK hcs H locs ls hP hD hS hl
  refine va_newa (atype := .int) (a0 := (n, .inl (fun _ => 0))) (ty := .int) hx hb (hts _ hw) rfl hK hP hD hS hA (fun _ => rfl) hx0 hN hby hc1 hs1 hd (fun a cB H1 hK1 hP1 hD1 hS1 => ?_)
  have h1 : s.vm.findClass ("[" ++ FieldType.int.toString) = some cA := (hK1.2 0 (cA, .int) rfl).2
  have h2 : s.vm.findClass ("[" ++ FieldType.int.toString) = some cB := (hK1.2 1 (cB, .int) rfl).2
  have e : cB = cA := Option.some.inj (h2.symm.trans h1)
  subst e
  refine k a hx hb hml hown hts hA hK ⟨hc1, hs1⟩ H1 locs ls ?_ ?_ hS1 hl
  · show va_P D vwCl (wf μ ++ [(a, .inl (cB, n, .inl (μ Q0)))]) H1
    rw [hz]; exact hP1
  · show va_D A (wf μ ++ [(a, .inl (cB, n, .inl (μ Q0)))])
    rw [hz]; exact hD1
theorem v_putF (q0 : Nat) {a ci N idx kf : Nat} {C ref nm ty : String} {T : u_T} {fs : List Value} {v : Value} (wf2 : Mem → va_W) (fty : FieldType) (he : (wf μ)[q0]? = some (a, .inr (ci, fs))) (hc : vwCl[ci]? = some (C, T, N)) (hin : ∀ w ∈ u_ws C T N, w ∈ lw_gd) (t0 : Nat → FieldType) (ht0 : ∀ k, k < N → parseFieldDescriptor (T k).2.2.1 = some (t0 k)) (hnm : ∀ a, a < N → ∀ b, b < N → a ≠ b → (T a).2.1 ≠ (T b).2.1) (hk : kf < N) (hT : (T kf).1 = ref ∧ (T kf).2.1 = nm ∧ (T kf).2.2.1 = ty ∧ (T kf).2.2.2 = true) (hdecl : ref = own) (hmn : meth.name = "<init>") (hw : (.fieldLink own idx ref nm ty : Cond) ∈ lw_gd) (hfd : parseFieldDescriptor ty = some fty) (hn : narrow fty v = v) (hfit : fits fty v = true) (hlen : kf < fs.length) (he2 : (wf μ).set q0 (a, .inr (ci, fs.set kf v)) = wf2 μ) (hd : decode cc pc = .ok (.putfield idx, 3)) (hq : pc + 3 = q) (k : VJ p l e fr rc rs rl s m args below meth c cells slots Q A cc nL own D cA wf2 q lo rest μ) : VJ p l e fr rc rs rl s m args below meth c cells slots Q A cc nL own D cA wf pc lo (v :: .ref a :: rest) μ := by
  subst hq
  obtain ⟨h1, h2, h3, h4⟩ := hT
  intro hx hb hml hown hts hA hK hcs H locs ls hP hD hS hl
  refine va_putF (ty := fty) hx hb hts hin t0 ht0 hnm hown hK hP hD hS q0 he hc kf hk (ref := ref) (index := idx) (by rw [h2, h3]; exact hts _ hw) (by rw [h1]; exact fun _ h => h) h4 hmn (by rw [h1]; exact hdecl) (by rw [h3]; exact hfd) hn hfit hlen hd (fun H1 locs1 g1 g2 g3 => ?_)
  rw [he2] at g1 g2
  exact k hx hb hml hown hts hA hK hcs H1 locs1 ls g1 g2 g3 hl
theorem v_putR (q0 : Nat) {a ci N idx kf : Nat} {C ref nm ty : String} {T : u_T} {fs : List Value} {v : Value} (wf2 : Mem → va_W) (fty : FieldType) (he : (wf μ)[q0]? = some (a, .inr (ci, fs))) (hc : vwCl[ci]? = some (C, T, N)) (hin : ∀ w ∈ u_ws C T N, w ∈ lw_gd) (t0 : Nat → FieldType) (ht0 : ∀ k, k < N → parseFieldDescriptor (T k).2.2.1 = some (t0 k)) (hnm : ∀ a, a < N → ∀ b, b < N → a ≠ b → (T a).2.1 ≠ (T b).2.1) (hk : kf < N) (hT : (T kf).1 = ref ∧ (T kf).2.1 = nm ∧ (T kf).2.2.1 = ty ∧ (T kf).2.2.2 = false) (hw : (.fieldLink own idx ref nm ty : Cond) ∈ lw_gd) (hfd : parseFieldDescriptor ty = some fty) (hn : narrow fty v = v) (hfit : fits fty v = true) (hlen : kf < fs.length) (he2 : (wf μ).set q0 (a, .inr (ci, fs.set kf v)) = wf2 μ) (hd : decode cc pc = .ok (.putfield idx, 3)) (hq : pc + 3 = q) (k : VJ p l e fr rc rs rl s m args below meth c cells slots Q A cc nL own D cA wf2 q lo rest μ) : VJ p l e fr rc rs rl s m args below meth c cells slots Q A cc nL own D cA wf pc lo (v :: .ref a :: rest) μ := by
  subst hq
  obtain ⟨h1, h2, h3, h4⟩ := hT
  intro hx hb hml hown hts hA hK hcs H locs ls hP hD hS hl
  refine va_put (ty := fty) hx hb hts hin t0 ht0 hnm hown hK hP hD hS q0 he hc kf hk (ref := ref) (index := idx) (by rw [h2, h3]; exact hts _ hw) (by rw [h1]; exact fun _ h => h) h4 (by rw [h3]; exact hfd) hn hfit hlen hd (fun H1 locs1 g1 g2 g3 => ?_)
  rw [he2] at g1 g2
  exact k hx hb hml hown hts hA hK hcs H1 locs1 ls g1 g2 g3 hl
theorem v_newo {ci N idx : Nat} {C : String} {T : u_T} (fs : Mem → List Value) (hc : vwCl[ci]? = some (C, T, N)) (hin : ∀ w ∈ u_ws C T N, w ∈ lw_gd) (t0 : Nat → FieldType) (ht0 : ∀ k, k < N → parseFieldDescriptor (T k).2.2.1 = some (t0 k)) (h1 : (.classLink own idx C : Cond) ∈ lw_gd) (h2 : (.instantiable C N : Cond) ∈ lw_gd) (h3 : (.initialized C : Cond) ∈ lw_gd) (hfs : ∀ j, j < N → defaultValue (t0 j) = vp_V (fs μ) j) (hc1 : cells + 1 ≤ rc) (hs1 : slots + N ≤ rs) (hd : decode cc pc = .ok (.new idx, 3)) (hq : pc + 3 = q) (k : ∀ a : Nat, VJ p l e fr rc rs rl s m args below meth c (cells + 1) (slots + N) Q A cc nL own D cA (fun ν => wf ν ++ [(a, .inr (ci, fs ν))]) q lo (.ref a :: rest) μ) : VJ p l e fr rc rs rl s m args below meth c cells slots Q A cc nL own D cA wf pc lo rest μ := by
  subst hq
  intro hx hb hml hown hts hA hK hcs H locs ls hP hD hS hl
  exact va_new hx hb hts hin t0 ht0 hown (hts _ h1) (hts _ h2) (hts _ h3) hK hP hD hS hA hc hfs hc1 hs1 hd (fun a H1 g1 g2 g3 => k a hx hb hml hown hts hA hK ⟨hc1, hs1⟩ H1 locs ls g1 g2 g3 hl)
theorem v_obj {a idx : Nat} (h1 : (.methodLink own idx Lib.objectInit : Cond) ∈ lw_gd) (h2 : (.instanceMethod Lib.objectInit : Cond) ∈ lw_gd) (h3 : (.code Lib.objectInit ⟨#[0xb1]⟩ 1 none : Cond) ∈ lw_gd) (hf : 1 ≤ fr) (hr : (rest.map fun v => v.category).sum + 12 ≤ rl) (hd : decode cc pc = .ok (.invokespecial idx, 3)) (hq : pc + 3 = q) (k : VJ p l e fr rc rs rl s m args below meth c cells slots Q A cc nL own D cA wf q lo rest μ) : VJ p l e fr rc rs rl s m args below meth c cells slots Q A cc nL own D cA wf pc lo (.ref a :: rest) μ := by
  subst hq
  intro hx hb hml hown hts hA hK hcs H locs ls hP hD hS hl
  refine W.objInit hx hb hown (hts _ h1) (hts _ h2) (hts _ h3) rfl (hl.1.1.trans hml.symm) rfl hd hf (by show 2 * 0 + (rest.map fun v => v.category).sum + 12 ≤ rl; omega) ?_
  exact k hx hb hml hown hts hA hK hcs H locs ls hP hD hS hl
end VN
/-- a constructor's contract: its object's cell comes in, cells come out at addresses ad with a memory u -/
abbrev CtN (l : Launch) (y : MethodName) (ws : List Cond) (fr rl mc ms : Nat) (D : va_G) (cA : ClassId) (h0 : Nat) (w0 : va_W) (sz : Nat) (Ex : State → Prop) (post : (Nat → Nat) → Mem → Prop) (wg : (Nat → Nat) → Mem → va_W) : Prop :=
  Met l y ws { frames := fr, cells := mc, slots := ms, locals := rl } (va_Pc [.ref h0] (fun U => sw_In D cA w0 sz U ∧ Ex U)) (va_Qv (S := (Nat → Nat) × Mem) (fun x => post x.1 x.2) (fun x t => va_P D vwCl (wg x.1 x.2) t.heap ∧ va_K D vwCl [(cA, .int)] t ∧ va_D (va_A w0 sz) (wg x.1 x.2)) (va_A w0 sz)) mc ms (va_A w0 sz)
theorem v_metN {l : Launch} {y : MethodName} {fr rl mc ms : Nat} {D : va_G} {cA : ClassId} {h0 : Nat} {wf : Mem → va_W} {μ : Mem} {sz : Nat} {Ex : State → Prop} {post : (Nat → Nat) → Mem → Prop} {wg : (Nat → Nat) → Mem → va_W} {cc : ByteArray} {maxL : Nat} {own : String} (lo0 : List (Option Value)) (ho : y.cls = own) (hnm : y.name = "<init>") (hy : plainName y.cls = true) (hlen : (lg_sl [.ref h0]).length ≤ maxL) (h0' : lo_av [.ref h0] maxL = lo0)
    (body : ∀ (p : Program) (e : Env) (s : State) (m : MethodId) (args : Array Value) (below : List Frame) (meth : Method) (c : Code) (A : Nat → Prop) (Q : State → Prop), meth.name = "<init>" → Ex s → (∀ (wf2 : Mem → va_W) (μ2 : Mem) (ad : Nat → Nat) (u : Mem) (is : List Nat) (pc : Nat) (lo : List (Option Value)), post ad u → va_nd is = true → is.map (fun i => (wf2 μ2)[i]?) = (wg ad u).map some → decode cc pc = .ok (.return_, 1) → VJ p l e fr mc ms rl s m args below meth c mc ms Q A cc maxL own D cA wf2 pc lo [] μ2) → VJ p l e fr mc ms rl s m args below meth c 0 0 Q A cc maxL own D cA wf 0 lo0 [] μ) :
    CtN l y (Cond.code y cc maxL none :: lw_gd) fr rl mc ms D cA h0 (wf μ) sz Ex post wg := by
  subst h0'
  subst ho
  refine Met.ofW (cc := cc) (maxL := maxL) (ret := none) hy rfl ?_
  intro p e s m args below meth c s₁ B hml hv
  obtain ⟨rfl, ⟨hsz, hP, hK, hD0⟩, hEx⟩ := hv
  have hx := B.exec
  have hb := B.bytes
  have hr := B.returns
  have hts := atoms_spec (ws := Cond.code y cc maxL none :: lw_gd) B.pre
  have hown : s.vm.findClass y.cls = some m.cls := findClass_of_methodNamed B.named
  have hlocks := B.notSynchronized
  have hin : meth.name = "<init>" := (name_of_methodNamed B.named B.method).1.trans hnm
  subst hsz
  have hD := hD0.self (sz := s.heap.size)
  have hl := lv_entry [.ref h0] (n := maxL) hlen
  rw [lg_entry_eq]
  refine body p e s m [Value.ref h0].toArray below meth c (va_A (wf μ) s.heap.size) _ hin hEx ?_ hx hb hml hown (fun w h => hts w (List.mem_cons_of_mem _ h)) (fun q h => Or.inr h) hK ⟨Nat.zero_le _, Nat.zero_le _⟩ _ _ _ hP hD va_S.rf (lo_start rfl hl)
  intro wf2 μ2 ad u is pc lo hpost hnd hmap hd hx2 hb2 hml2 hown2 hts2 hA2 hK2 hcs2 H locs ls hP1 hD1 hS1 hl1
  have hs : is.filterMap (fun i => (wf2 μ2)[i]?) = wg ad u := by
    have h2 : (is.map (fun i => (wf2 μ2)[i]?)).filterMap id = ((wg ad u).map some).filterMap id := by rw [hmap]
    simpa [List.filterMap_map, Function.comp_def] using h2
  exact W.vret hx hb hr (fun t ht hW => ⟨⟨(ad, u), rfl, hpost, by rw [ht]; exact hP1.sub is hs, va_K.moved hW.alike hK, hD1.sub is hnd hmap⟩, hS1.F ht⟩) hS1.2.2 hd
section VNC
variable {p : Program} {l : Launch} {e : Env} {fr rc rs rl : Nat} {s : State} {m : MethodId} {args : Array Value} {below : List Frame} {meth : Method} {c : Code} {cells slots : Nat} {Q : State → Prop} {A : Nat → Prop} {cc : ByteArray} {nL : Nat} {own : String} {D : va_G} {cA : ClassId} {wf : Mem → va_W}
variable {pc q : Nat} {lo : List (Option Value)} {rest : List Value} {μ : Mem} {y : MethodName} {bytes : ByteArray} {maxL idx cfr crl mc ms : Nat} {b : Addr}
theorem v_initC {Ex : State → Prop} {post : (Nat → Nat) → Mem → Prop} {wg : (Nat → Nat) → Mem → va_W} {w0 wr : va_W} (isC isR : List Nat) (hM : ∀ sz, CtN l y (Cond.code y bytes maxL none :: lw_gd) cfr crl mc ms D cA b w0 sz Ex post wg) (hEx : ∀ U : State, s.WarmedH U.vm → Ex U) (hExB : ∀ (U : State) (g : JFrame) (mk : MethodId) (a : Array Value), Ex U → Ex (U.calling g mk a)) (h1 : (.methodLink own idx y : Cond) ∈ lw_gd) (h2 : (.instanceMethod y : Cond) ∈ lw_gd) (h5 : (.code y bytes maxL none : Cond) ∈ lw_gd) (h4 : (.initialized y.cls : Cond) ∈ lw_gd) (hnm : y.name = "<init>") (hyd : y.cls ≠ "java/lang/invoke/MethodHandle" ∧ y.cls ≠ "java/lang/invoke/VarHandle" ∧ (parseMethodDescriptor y.desc).map (fun d => d.parameters.length) = some 0) (hfr : cfr + 1 ≤ fr) (hrl : 8 + (maxL + 11) + crl ≤ rl) (hrm : (rest.map fun v => v.category).sum ≤ 8) (hc1 : cells + mc ≤ rc) (hs1 : slots + ms ≤ rs)
    (hC : isC.map (fun i => (wf μ)[i]?) = w0.map some) (hnC : va_nd isC = true) (hR : isR.map (fun i => (wf μ)[i]?) = wr.map some) (hnR : va_nd isR = true) (hdis : ∀ i ∈ isR, i ∉ isC) (hd : decode cc pc = .ok (.invokespecial idx, 3)) (hq : pc + 3 = q)
    (k : ∀ (ad : Nat → Nat) (u : Mem), post ad u → ∃ (wf2 : Mem → va_W) (u2 : Mem), wf2 u2 = wr ++ wg ad u ∧ VJ p l e fr rc rs rl s m args below meth c (cells + mc) (slots + ms) Q A cc nL own D cA wf2 q lo rest u2) : VJ p l e fr rc rs rl s m args below meth c cells slots Q A cc nL own D cA wf pc lo (.ref b :: rest) μ := by
  subst hq
  intro hx hb hml hown hts hA hK hcs H locs ls hP hD hS hl
  have M : ∀ {w : Cond}, w ∈ lw_gd → w.before args s = true := fun h => hts _ h
  have hF := va_free (wc := w0) hD hS hA isC hC
  have hs : isC.filterMap (fun i => (wf μ)[i]?) = w0 := by
    have h2 : (isC.map (fun i => (wf μ)[i]?)).filterMap id = (w0.map some).filterMap id := by rw [hC]
    simpa [List.filterMap_map, Function.comp_def] using h2
  have hP0 := hP.sub isC hs
  have hD0 := hD.sub isC hnC hC
  refine va_callv (mc := mc) (ms := ms) (va_runI (bytes := bytes) (maxL := maxL) (As := []) (rest := rest) ⟨hx, hb, hml, hown, hts⟩ (hM H.size) ⟨callB_of 0 hts (gw_C h5) rfl rfl rfl (M h4) (M h1) hyd ⟨hfr, hrl⟩, hnm, M h2⟩ ⟨fun a U g mk q => ⟨(sw_blind a U g mk ⟨q.1, q.2.1⟩).1, (sw_blind a U g mk ⟨q.1, q.2.1⟩).2, hExB U g mk a q.2.2⟩, fun U hU hW => ⟨rfl, ⟨by rw [hU], by rw [hU]; exact hP0, va_K.moved hW.alike hK, hD0.weaken (fun _ _ _ _ => trivial)⟩, hEx U hW⟩⟩ rfl rfl hl.1.1 rfl (lv_room hrm) hd ⟨hc1, hs1⟩) hS (fun q _ h => hF q h) hF (fun u t H1 locs1 ht hvm hw hB hz1 hk1 hS1 => ?_)
  obtain ⟨ad, u⟩ := u
  obtain ⟨g1, -, g3⟩ := hB
  rw [ht] at g1
  obtain ⟨a1, a2⟩ := va_join (wr := wr) (w1 := wg ad u) hP hD isC isR hC hR hnR hdis hk1 hF g1 g3
  obtain ⟨wf2, u2, e2, k2⟩ := k ad u hw
  rw [← e2] at a1 a2
  exact k2 hx hb hml hown hts hA hK ⟨hc1, hs1⟩ H1 locs1 ls a1 a2 hS1 hl
theorem v_initN {Ex : State → Prop} {post : (Nat → Nat) → Mem → Prop} {wg : (Nat → Nat) → Mem → va_W} {w0 wr : va_W} (isC isR : List Nat) (hM : ∀ sz, CtN l y (Cond.code y bytes maxL none :: lw_gd) cfr crl mc ms D cA b w0 sz Ex post wg) (hEx : ∀ U : State, s.WarmedH U.vm → Ex U) (hExB : ∀ (U : State) (g : JFrame) (mk : MethodId) (a : Array Value), Ex U → Ex (U.calling g mk a)) {host : String} (h1 : va_Nw (.methodLinkNest own idx y host) s) (h2 : (.instanceMethod y : Cond) ∈ lw_gd) (h5 : (.code y bytes maxL none : Cond) ∈ lw_gd) (h4 : (.initialized y.cls : Cond) ∈ lw_gd) (hnm : y.name = "<init>") (hyd : y.cls ≠ "java/lang/invoke/MethodHandle" ∧ y.cls ≠ "java/lang/invoke/VarHandle" ∧ (parseMethodDescriptor y.desc).map (fun d => d.parameters.length) = some 0) (hfr : cfr + 1 ≤ fr) (hrl : 8 + (maxL + 11) + crl ≤ rl) (hrm : (rest.map fun v => v.category).sum ≤ 8) (hc1 : cells + mc ≤ rc) (hs1 : slots + ms ≤ rs)
    (hC : isC.map (fun i => (wf μ)[i]?) = w0.map some) (hnC : va_nd isC = true) (hR : isR.map (fun i => (wf μ)[i]?) = wr.map some) (hnR : va_nd isR = true) (hdis : ∀ i ∈ isR, i ∉ isC) (hd : decode cc pc = .ok (.invokespecial idx, 3)) (hq : pc + 3 = q)
    (k : ∀ (ad : Nat → Nat) (u : Mem), post ad u → ∃ (wf2 : Mem → va_W) (u2 : Mem), wf2 u2 = wr ++ wg ad u ∧ VJ p l e fr rc rs rl s m args below meth c (cells + mc) (slots + ms) Q A cc nL own D cA wf2 q lo rest u2) : VJ p l e fr rc rs rl s m args below meth c cells slots Q A cc nL own D cA wf pc lo (.ref b :: rest) μ := by
  subst hq
  intro hx hb hml hown hts hA hK hcs H locs ls hP hD hS hl
  have M : ∀ {w : Cond}, w ∈ lw_gd → w.before args s = true := fun h => hts _ h
  have hF := va_free (wc := w0) hD hS hA isC hC
  have hs : isC.filterMap (fun i => (wf μ)[i]?) = w0 := by
    have h2 : (isC.map (fun i => (wf μ)[i]?)).filterMap id = (w0.map some).filterMap id := by rw [hC]
    simpa [List.filterMap_map, Function.comp_def] using h2
  have hP0 := hP.sub isC hs
  have hD0 := hD.sub isC hnC hC
  refine va_callv (mc := mc) (ms := ms) (va_runIN (bytes := bytes) (maxL := maxL) (As := []) (rest := rest) ⟨hx, hb, hml, hown, hts⟩ (hM H.size) ⟨va_cnB 0 hts (gw_C h5) rfl rfl rfl h1 (M h4) hyd ⟨hfr, hrl⟩, hnm, M h2⟩ ⟨fun a U g mk q => ⟨(sw_blind a U g mk ⟨q.1, q.2.1⟩).1, (sw_blind a U g mk ⟨q.1, q.2.1⟩).2, hExB U g mk a q.2.2⟩, fun U hU hW => ⟨rfl, ⟨by rw [hU], by rw [hU]; exact hP0, va_K.moved hW.alike hK, hD0.weaken (fun _ _ _ _ => trivial)⟩, hEx U hW⟩⟩ rfl rfl hl.1.1 rfl (lv_room hrm) hd ⟨hc1, hs1⟩) hS (fun q _ h => hF q h) hF (fun u t H1 locs1 ht hvm hw hB hz1 hk1 hS1 => ?_)
  obtain ⟨ad, u⟩ := u
  obtain ⟨g1, -, g3⟩ := hB
  rw [ht] at g1
  obtain ⟨a1, a2⟩ := va_join (wr := wr) (w1 := wg ad u) hP hD isC isR hC hR hnR hdis hk1 hF g1 g3
  obtain ⟨wf2, u2, e2, k2⟩ := k ad u hw
  rw [← e2] at a1 a2
  exact k2 hx hb hml hown hts hA hK ⟨hc1, hs1⟩ H1 locs1 ls a1 a2 hS1 hl
end VNC
