/-! constructors, fresh rows, statics: rows of the logic layer for these -/
theorem wd.sub {D : va_G} {A : Nat → Prop} {H0 H : Heap} {ws wn : va_W} {locs : List Loc} (hw : wd D A H0 ws H locs) (is : List Nat) (hn : va_nd is = true) (hs : is.map (fun i => ws[i]?) = wn.map some) : wd D A H0 wn H locs := by
  refine ⟨hw.1.sub is ?_, hw.2.1.sub is hn hs, hw.2.2⟩
  have e : is.filterMap (fun i => ws[i]?) = (is.map (fun i => ws[i]?)).filterMap id := by rw [List.filterMap_map]; rfl
  rw [e, hs, List.filterMap_map]; simp
theorem dw.mn {D : va_G} {cy : ClassId} {s : State} (h : dw D cy s) (i : Nat) {a : String} {k : Nat} {y : MethodName} {g : String} (hi : nml[i]? = some (a, k, y, g)) : va_Nw (.methodLinkNest a k y g) s := h.2.2 (a, k, y, g) (List.mem_of_getElem? hi)
section GL2
variable {p : Program} {l : Launch} {e : Env} {R : Room} {s : State} {m : MethodId} {args : Array Value} {below : List Frame} {meth : Method} {c : Code} {H : Heap} {locs : List Loc} {cells slots : Nat} {Q : State → Prop}
variable {cc : ByteArray} {pc nL : Nat} {ls : Array Slot} {rest : List Value} {D : va_G} {cy : ClassId} {A : Nat → Prop} {a : Nat} {ws wn : va_W} {own : String} {Ts : List Cond}
theorem g_newa (h : am p s m args c cc nL own Ts D cy A) (hw : wd D A s.heap ws H locs) {n : Int32} {N : Nat} (harr : Cond.arrayClass .int ∈ Ts) (hn : ¬ n < 0) (hN : n.toNatClampNeg = N) (hbytes : N * 4 ≤ 536870912) (hcells : cells + 1 ≤ R.cells) (hslots : slots + N ≤ R.slots) (hdg : decode cc pc = .ok (.newarray .int, 2))
    (kk : ∀ (q : Nat) (H1 : Heap), wd D A s.heap (ws ++ [(q, .inl (cy, N, .inl (fun _ => 0)))]) H1 locs → W p l e R s m args below meth c H1 locs (cells + 1) (slots + N) Q (F0 m (pc + 2) ls (.ref q :: rest))) : W p l e R s m args below meth c H locs cells slots Q (F0 m pc ls (.int n :: rest)) := by
  refine va_newa (atype := .int) (ty := .int) (a0 := (N, .inl (fun _ => 0))) h.1 h.2.1 (h.2.2.2.2.1 _ harr) rfl h.2.2.2.2.2.1.1 hw.1 hw.2.1 hw.2.2 h.2.2.2.2.2.2 (fun cA => rfl) hn hN hbytes hcells hslots hdg (fun q cA H1 hK hP hD hS => ?_)
  have e : cA = cy := by
    have e1 := va_nm_int (hK.2 1 (cA, .int) rfl).2
    have e2 := va_nm_int (hK.2 0 (cy, .int) rfl).2
    exact Option.some.inj (e1.symm.trans e2)
  subst e
  exact kk q H1 ⟨hP, hD, hS⟩
theorem g_new (h : am p s m args c cc nL own Ts D cy A) (hw : wd D A s.heap ws H locs) {C : String} {T : u_T} {N ci index : Nat} {ty0 : Nat → FieldType} (fs : List Value) (hc : vwCl[ci]? = some (C, T, N)) (hin : ∀ w ∈ u_ws C T N, w ∈ Ts) (hty : ∀ k, k < N → parseFieldDescriptor (T k).2.2.1 = some (ty0 k)) (hcl : Cond.classLink own index C ∈ Ts) (hinst : Cond.instantiable C N ∈ Ts) (hini : Cond.initialized C ∈ Ts) (hfs : ∀ j, j < N → defaultValue (ty0 j) = vp_V fs j) (hcells : cells + 1 ≤ R.cells) (hslots : slots + N ≤ R.slots) (hdg : decode cc pc = .ok (.new index, 3))
    (kk : ∀ (q : Nat) (H1 : Heap), wd D A s.heap (ws ++ [(q, .inr (ci, fs))]) H1 locs → W p l e R s m args below meth c H1 locs (cells + 1) (slots + N) Q (F0 m (pc + 3) ls (.ref q :: rest))) : W p l e R s m args below meth c H locs cells slots Q (F0 m pc ls rest) :=
  va_new (C := C) (T := T) (N := N) (ci := ci) h.1 h.2.1 h.2.2.2.2.1 hin ty0 hty h.2.2.2.1 (h.2.2.2.2.1 _ hcl) (h.2.2.2.2.1 _ hinst) (h.2.2.2.2.1 _ hini) h.2.2.2.2.2.1.1 hw.1 hw.2.1 hw.2.2 h.2.2.2.2.2.2 hc hfs hcells hslots hdg (fun q H1 a1 a2 a3 => kk q H1 ⟨a1, a2, a3⟩)
theorem g_putF (h : am p s m args c cc nL own Ts D cy A) (hw : wd D A s.heap ws H locs) (hin2 : meth.name = "<init>") {C : String} {T : u_T} {N ci index : Nat} (q0 k : Nat) {fs : List Value} {v : Value} {ty0 : Nat → FieldType} (hc : vwCl[ci]? = some (C, T, N)) (hin : ∀ w ∈ u_ws C T N, w ∈ Ts) (hty : ∀ k, k < N → parseFieldDescriptor (T k).2.2.1 = some (ty0 k)) (hnm : ∀ a, a < N → ∀ b, b < N → a ≠ b → (T a).2.1 ≠ (T b).2.1) (hk : k < N) (hlink : Cond.fieldLink own index (T k).1 (T k).2.1 (T k).2.2.1 ∈ Ts) (hfin : (T k).2.2.2 = true) (hdecl : (T k).1 = own) (hn : narrow (ty0 k) v = v) (hfit : fits (ty0 k) v = true) (he : ws[q0]? = some (a, .inr (ci, fs))) (hl : k < fs.length) (hnew : ws.set q0 (a, .inr (ci, fs.set k v)) = wn) (hdg : decode cc pc = .ok (.putfield index, 3))
    (kk : ∀ (H1 : Heap) (locs1 : List Loc), wd D A s.heap wn H1 locs1 → W p l e R s m args below meth c H1 locs1 cells slots Q (F0 m (pc + 3) ls rest)) : W p l e R s m args below meth c H locs cells slots Q (F0 m pc ls (v :: .ref a :: rest)) := by
  subst hnew
  exact va_putF (C := C) (T := T) (N := N) (ci := ci) (v := v) (ty := ty0 k) h.1 h.2.1 h.2.2.2.2.1 hin ty0 hty hnm h.2.2.2.1 h.2.2.2.2.2.1.1 hw.1 hw.2.1 hw.2.2 q0 he hc k hk (h.2.2.2.2.1 _ hlink) (fun _ h9 => h9) hfin hin2 hdecl (hty k hk) hn hfit hl hdg (fun H1 locs1 a1 a2 a3 => kk H1 locs1 ⟨a1, a2, a3⟩)
theorem g_obj (h : am p s m args c cc nL own Ts D cy A) (hl : ls.size = nL) {idx : Nat} (hlink : Cond.methodLink own idx objectInit ∈ Ts) (hinst : Cond.instanceMethod objectInit ∈ Ts) (hcode : Cond.code objectInit ⟨#[0xb1]⟩ 1 none ∈ Ts) (hd : decode cc pc = .ok (.invokespecial idx, 3)) (hframes : 1 ≤ R.frames) (hlocals : (rest.map fun v => v.category).sum + 12 ≤ R.locals)
    (kk : W p l e R s m args below meth c H locs cells slots Q (F0 m (pc + 3) ls rest)) : W p l e R s m args below meth c H locs cells slots Q (F0 m pc ls (.ref a :: rest)) := by
  refine W.objInit h.1 h.2.1 h.2.2.2.1 (h.2.2.2.2.1 _ hlink) (h.2.2.2.2.1 _ hinst) (h.2.2.2.2.1 _ hcode) rfl (by rw [h.2.2.1]; exact hl) rfl hd hframes (by simpa [F0, JFrame.monitorRoom] using hlocals) kk
theorem g_ci {S : Type} {y : MethodName} {wsy : List Cond} {rm : Room} {mc ms : Nat} {As : List Value} {b : Nat} {wc : va_W} {pre : Prop} {w1 : S → va_W} {K : S → Prop} {bytes : ByteArray} {maxL n index : Nat} {st0 : List Value} {wn : S → va_W} (h : am p s m args c cc nL own Ts D cy A) (hw : wd D A s.heap ws H locs) (hl : ls.size = nL) (hct : CtV l y wsy rm mc ms D cy (.ref b :: As) wc pre w1 K) (cw : CallB R s args own index y bytes maxL none wsy rm mc ms n ∧ y.name = "<init>" ∧ (Cond.instanceMethod y).before args s = true) (isC isR pm : List Nat) (hC : isC.map (fun i => ws[i]?) = wc.map some) (hcn : va_nd isC = true) (hR : isR.map (fun i => ws[i]?) = (isR.filterMap (fun i => ws[i]?)).map some) (hn : va_nd isR = true) (hdis : ∀ i ∈ isR, i ∉ isC) (hpn : va_nd pm = true) (hpm : ∀ u, pm.map (fun i => (isR.filterMap (fun i => ws[i]?) ++ w1 u)[i]?) = (wn u).map some) (hp : pre) (hlen : As.length = n) (hst : st0 = As.reverse ++ .ref b :: rest) (hroom : (rest.map fun v => v.category).sum ≤ 8) (hdg : decode cc pc = .ok (.invokespecial index, 3)) (hf : cells + mc ≤ R.cells ∧ slots + ms ≤ R.slots)
    (kk : ∀ (u : S) (H1 : Heap) (locs1 : List Loc), K u → wd D A s.heap (wn u) H1 locs1 → W p l e R s m args below meth c H1 locs1 (cells + mc) (slots + ms) Q (F0 m (pc + 3) ls rest)) : W p l e R s m args below meth c H locs cells slots Q (F0 m pc ls st0) := by
  subst hst
  have hwc := hw.sub isC hcn hC
  have hFc := va_free (wc := wc) hw.2.1 hw.2.2 h.2.2.2.2.2.2 isC hC
  refine va_callv (va_runI (As := As) (rest := rest) ⟨h.1, h.2.1, h.2.2.1, h.2.2.2.1, h.2.2.2.2.1⟩ (hct H.size) cw ⟨ct_blind, ct_enter hwc.1 hwc.2.1 h.2.2.2.2.2.1 hp⟩ rfl hlen hl rfl (lv_room hroom) hdg hf) hw.2.2 (fun q _ h => hFc q h) hFc (fun u t H1 locs1 ht hvm hk hB hz1 hk1 hS => ?_)
  obtain ⟨hP1, hD1⟩ := hB
  rw [ht] at hP1
  exact kk u H1 locs1 hk (g_frame (S := S) hw hS isC isR pm hC hR hn hdis hk1 hFc hP1 hD1 hpn (hpm u))
theorem g_ciN {S : Type} {y : MethodName} {wsy : List Cond} {rm : Room} {mc ms : Nat} {As : List Value} {b : Nat} {wc : va_W} {pre : Prop} {w1 : S → va_W} {K : S → Prop} {bytes : ByteArray} {maxL n index : Nat} {st0 : List Value} {wn : S → va_W} (h : am p s m args c cc nL own Ts D cy A) (hw : wd D A s.heap ws H locs) (hl : ls.size = nL) (hct : CtV l y wsy rm mc ms D cy (.ref b :: As) wc pre w1 K) (cw : va_CN R s args own index y RX10 bytes maxL none wsy rm mc ms n ∧ y.name = "<init>" ∧ (Cond.instanceMethod y).before args s = true) (isC isR pm : List Nat) (hC : isC.map (fun i => ws[i]?) = wc.map some) (hcn : va_nd isC = true) (hR : isR.map (fun i => ws[i]?) = (isR.filterMap (fun i => ws[i]?)).map some) (hn : va_nd isR = true) (hdis : ∀ i ∈ isR, i ∉ isC) (hpn : va_nd pm = true) (hpm : ∀ u, pm.map (fun i => (isR.filterMap (fun i => ws[i]?) ++ w1 u)[i]?) = (wn u).map some) (hp : pre) (hlen : As.length = n) (hst : st0 = As.reverse ++ .ref b :: rest) (hroom : (rest.map fun v => v.category).sum ≤ 8) (hdg : decode cc pc = .ok (.invokespecial index, 3)) (hf : cells + mc ≤ R.cells ∧ slots + ms ≤ R.slots)
    (kk : ∀ (u : S) (H1 : Heap) (locs1 : List Loc), K u → wd D A s.heap (wn u) H1 locs1 → W p l e R s m args below meth c H1 locs1 (cells + mc) (slots + ms) Q (F0 m (pc + 3) ls rest)) : W p l e R s m args below meth c H locs cells slots Q (F0 m pc ls st0) := by
  subst hst
  have hwc := hw.sub isC hcn hC
  have hFc := va_free (wc := wc) hw.2.1 hw.2.2 h.2.2.2.2.2.2 isC hC
  refine va_callv (va_runIN (As := As) (rest := rest) ⟨h.1, h.2.1, h.2.2.1, h.2.2.2.1, h.2.2.2.2.1⟩ (hct H.size) cw ⟨ct_blind, ct_enter hwc.1 hwc.2.1 h.2.2.2.2.2.1 hp⟩ rfl hlen hl rfl (lv_room hroom) hdg hf) hw.2.2 (fun q _ h => hFc q h) hFc (fun u t H1 locs1 ht hvm hk hB hz1 hk1 hS => ?_)
  obtain ⟨hP1, hD1⟩ := hB
  rw [ht] at hP1
  exact kk u H1 locs1 hk (g_frame (S := S) hw hS isC isR pm hC hR hn hdis hk1 hFc hP1 hD1 hpn (hpm u))
/-- the static rows LEAST and MOST of Scene: old cells, outside of what is written -/
def stq (A : Nat → Prop) (b1 b2 : Nat) (xs ys : IA) (U : State) (H : Heap) : Prop := (va_Z RX6 "LEAST" "[I" (.ref b1) A U H ∧ va_X b1 4 xs U H ∧ b1 < H.size ∧ ¬ A b1 ∧ va_Nw (.fieldLinkNest RX10 156 RX6 "LEAST" "[I" RX10) U) ∧ va_Z RX6 "MOST" "[I" (.ref b2) A U H ∧ va_X b2 4 ys U H ∧ b2 < H.size ∧ ¬ A b2 ∧ va_Nw (.fieldLinkNest RX10 159 RX6 "MOST" "[I" RX10) U
def CtS (l : Launch) (y : MethodName) (ws : List Cond) (rm : Room) (mc ms : Nat) (D : va_G) (cy : ClassId) (b1 b2 : Nat) (xs ys : IA) (av : List Value) (w0 : va_W) (pre : Prop) {S : Type} (w1 : S → va_W) (K : Int32 → S → Prop) : Prop := ∀ sz : Nat, Met l y ws rm (va_Pc av (fun U => ct_pre D cy w0 sz pre U ∧ stq (va_A w0 sz) b1 b2 xs ys U U.heap)) (va_Qi K (ct_post D w1 (va_A w0 sz)) (va_A w0 sz)) mc ms (va_A w0 sz)
theorem CtS.mk {l : Launch} {y : MethodName} {ws ws' : List Cond} {rm : Room} {mc ms : Nat} {D : va_G} {cy : ClassId} {b1 b2 : Nat} {xs ys : IA} {av : List Value} {w0 : va_W} {pre : Prop} {S : Type} {w1 : S → va_W} {K : Int32 → S → Prop} {cc : ByteArray} {nL : Nat} (hy : plainName y.cls = true) (hw : ws = Cond.code y cc nL (some .int) :: ws') (hlen : (lg_sl av).length ≤ nL)
    (body : ∀ (p : Program) (e : Env) (s : State) (m : MethodId) (args : Array Value) (below : List Frame) (meth : Method) (c : Code) (A : Nat → Prop) (Q : State → Prop), am p s m args c cc nL y.cls ws D cy A → rtI p l e rm s m args below meth c mc ms Q cc D A w1 K → stq A b1 b2 xs ys s s.heap → pre → ∀ ls : Array Slot, lv_has ls nL (lv_args 0 av) → wd D A s.heap w0 s.heap [] → W p l e rm s m args below meth c s.heap [] 0 0 Q (F0 m 0 ls [])) : CtS l y ws rm mc ms D cy b1 b2 xs ys av w0 pre w1 K := by
  intro sz
  refine Met.ofW (cc := cc) (maxL := nL) (ret := some .int) hy hw ?_
  intro p e s m args below meth c s₁ B hml hv
  obtain ⟨rfl, ⟨hsz, hP, hK, hD0, hpre⟩, hst⟩ := hv
  have hlocks := B.notSynchronized
  have hr := B.returns
  subst hsz
  have hD := hD0.self (sz := s.heap.size)
  have hl := lv_entry av (n := nL) hlen
  rw [lg_entry_eq]
  exact body p e s m _ below meth c (va_A w0 s.heap.size) _ ⟨B.exec, B.bytes, hml, findClass_of_methodNamed B.named, atoms_spec (ws := ws) B.pre, hK, fun q h => Or.inr h⟩ (fun pc r u H locs ls hd hk hw => W.iret B.exec B.bytes hr (fun t ht hW => ⟨⟨r, u, rfl, hk, by rw [ht]; exact hw.1, hw.2.1⟩, hw.2.2.F ht⟩) hw.2.2.2.2 hd) hst hpre _ hl ⟨hP, hD, va_S.rf⟩
end GL2
