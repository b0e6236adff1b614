/-! MY LOGIC LAYER over the kit: worlds with their frame in one word (wd), contracts in one form (CtI, CtZ, CtV), calls in one row -/
abbrev IA : Type := Nat → Int32
def nfl : List (String × Nat × String × String × String × String) := [(RX9, 18, RX1, "rooms", "I", RX10), (RX7, 72, RX1, "rooms", "I", RX10), (RX3, 106, RX1, "rooms", "I", RX10), (RX10, 215, RX1, "rooms", "I", RX10), (RX10, 261, RX1, "doors", "I", RX10), (RX9, 43, RX1, "needs", "I", RX10), (RX10, 149, RX1, "needs", "I", RX10), (RX3, 108, RX1, "needs", "I", RX10), (RX6, 54, RX1, "work", "[I", RX10), (RX10, 136, RX1, "work", "[I", RX10), (RX10, 139, RX1, "coats", "[I", RX10), (RX7, 112, RX1, "coats", "[I", RX10), (RX3, 96, RX1, "coats", "[I", RX10), (RX9, 40, RX1, "beside", "[I", RX10), (RX4, 50, RX0, "rows", "I", RX10), (RX10, 249, RX0, "rows", "I", RX10), (RX4, 53, RX0, "columns", "I", RX10), (RX10, 252, RX0, "columns", "I", RX10), (RX10, 129, RX0, "squares", "I", RX10), (RX3, 25, RX5, "steps", "I", RX10), (RX6, 67, RX5, "steps", "I", RX10), (RX10, 187, RX5, "steps", "I", RX10), (RX3, 35, RX5, "rooms", "[I", RX10), (RX6, 64, RX5, "rooms", "[I", RX10), (RX10, 190, RX5, "rooms", "[I", RX10), (RX6, 61, RX5, "hours", "[I", RX10), (RX3, 74, RX5, "hours", "[I", RX10), (RX10, 193, RX5, "hours", "[I", RX10), (RX10, 60, RX6, "building", "LIntoTheCorner$House;", RX10), (RX7, 66, RX6, "building", "LIntoTheCorner$House;", RX10), (RX3, 46, RX6, "building", "LIntoTheCorner$House;", RX10), (RX3, 19, RX6, "row", "LIntoTheCorner$Plan;", RX10), (RX10, 174, RX6, "row", "LIntoTheCorner$Plan;", RX10), (RX10, 123, RX6, "ground", "LIntoTheCorner$Floor;", RX10), (RX3, 93, RX6, "habits", "[I", RX10), (RX10, 162, RX6, "habits", "[I", RX10), (RX7, 156, RX6, "habits", "[I", RX10), (RX10, 168, RX6, "planked", "I", RX10), (RX10, 203, RX3, "leastHour", "I", RX10), (RX10, 206, RX3, "leastThing", "I", RX10), (RX10, 223, RX7, "best", "LIntoTheCorner$Plan;", RX10)]
def nml : List (String × Nat × MethodName × String) := [(RX10, 15, ⟨RX8, "<init>", "()V"⟩, RX10), (RX10, 31, ⟨RX1, "<init>", "()V"⟩, RX10), (RX10, 38, ⟨RX0, "<init>", "()V"⟩, RX10), (RX10, 45, ⟨RX6, "<init>", "()V"⟩, RX10), (RX6, 9, ⟨RX1, "<init>", "()V"⟩, RX10), (RX6, 18, ⟨RX5, "<init>", "()V"⟩, RX10), (RX6, 25, ⟨RX0, "<init>", "()V"⟩, RX10), (RX10, 55, ⟨RX9, "<init>", "()V"⟩, RX10), (RX7, 11, ⟨RX5, "<init>", "()V"⟩, RX10), (RX10, 85, ⟨RX4, "<init>", "()V"⟩, RX10)]
def nw_all (U : State) : Prop := (∀ q ∈ nfl, va_Nw (.fieldLinkNest q.1 q.2.1 q.2.2.1 q.2.2.2.1 q.2.2.2.2.1 q.2.2.2.2.2) U) ∧ ∀ q ∈ nml, va_Nw (.methodLinkNest q.1 q.2.1 q.2.2.1 q.2.2.2) U
theorem nw_all.warm {s U : State} (hW : s.WarmedH U.vm) (h : nw_all s) : nw_all U := ⟨fun q hq => va_Nw.warmF hW (h.1 q hq), fun q hq => va_Nw.warmM hW (h.2 q hq)⟩
theorem nw_all.same {u U : State} (e : u.vm = U.vm) (h : nw_all u) : nw_all U := ⟨fun q hq => va_Nw.same rfl e (h.1 q hq), fun q hq => va_Nw.same rfl e (h.2 q hq)⟩
/-- what the machine's tables say, all along: classes, the class of int rows, nest mates' links -/
def dw (D : va_G) (cy : ClassId) (U : State) : Prop := va_K D vwCl [(cy, .int)] U ∧ nw_all U
theorem dw.warm {D : va_G} {cy : ClassId} {s U : State} (hW : s.WarmedH U.vm) (h : dw D cy s) : dw D cy U := ⟨va_K.moved hW.alike h.1, h.2.warm hW⟩
theorem dw.fn {D : va_G} {cy : ClassId} {s : State} (h : dw D cy s) {args : Array Value} (i : Nat) {a b n d g : String} {k : Nat} (hi : nfl[i]? = some (a, k, b, n, d, g)) : (Cond.fieldLinkNest a k b n d g).before args s = true := va_Nw.use rfl (h.2.1 (a, k, b, n, d, g) (List.mem_of_getElem? hi))
/-- the world: cells, apart, and what has changed since H0 -/
def wd (D : va_G) (A : Nat → Prop) (H0 : Heap) (ws : va_W) (H : Heap) (locs : List Loc) : Prop := va_P D vwCl ws H ∧ va_D A ws ∧ va_S A H0 H locs
def ct_pre (D : va_G) (cy : ClassId) (w0 : va_W) (sz : Nat) (pre : Prop) (U : State) : Prop := U.heap.size = sz ∧ va_P D vwCl w0 U.heap ∧ dw D cy U ∧ va_D (fun _ => True) w0 ∧ pre
def ct_post {S : Type} (D : va_G) (w1 : S → va_W) (A : Nat → Prop) (u : S) (t : State) : Prop := va_P D vwCl (w1 u) t.heap ∧ va_D A (w1 u)
theorem ct_blind {D : va_G} {cy : ClassId} {w0 : va_W} {sz : Nat} {pre : Prop} {av : List Value} : FrameBlind (va_Pc av (ct_pre D cy w0 sz pre)) := fun a U g mk ⟨q0, q1, qP, qK, qD, qp⟩ =>
  ⟨q0, q1, qP, ⟨va_K.moved (u := U) (U := U.calling g mk a) (Vm.Alike.refl U.vm) qK.1, nw_all.same (u := U) (U := U.calling g mk a) rfl qK.2⟩, qD, qp⟩
theorem ct_enter {D : va_G} {cy : ClassId} {wc : va_W} {pre : Prop} {av : List Value} {s : State} {H : Heap} {A : Nat → Prop} (hP : va_P D vwCl wc H) (hD : va_D A wc) (hdw : dw D cy s) (hp : pre) : ∀ U : State, U.heap = H → s.WarmedH U.vm → va_Pc av (ct_pre D cy wc H.size pre) av.toArray U :=
  fun U hU hW => ⟨rfl, by rw [hU], by rw [hU]; exact hP, hdw.warm hW, hD.weaken (fun _ _ _ _ => trivial), hp⟩
def nz (r : Int32) : Prop := r = 0 ∨ r = 1
theorem nz0 : nz 0 := Or.inl rfl
theorem nz1 : nz 1 := Or.inr rfl
theorem nz.nar {r : Int32} (h : nz r) : narrow .boolean (.int r) = .int r := by rcases h with rfl | rfl <;> rfl
theorem nz.fit {r : Int32} (h : nz r) : fits .boolean (.int r) = true := by rcases h with rfl | rfl <;> rfl
/-- contracts: of a method that answers an int, a truth, nothing -/
def CtI (l : Launch) (y : MethodName) (ws : List Cond) (rm : Room) (mc ms : Nat) (D : va_G) (cy : ClassId) (av : List Value) (w0 : va_W) (pre : Prop) {S : Type} (w1 : S → va_W) (K : Int32 → S → Prop) : Prop := ∀ sz : Nat, Met l y ws rm (va_Pc av (ct_pre D cy w0 sz pre)) (va_Qi K (ct_post D w1 (va_A w0 sz)) (va_A w0 sz)) mc ms (va_A w0 sz)
def CtZ (l : Launch) (y : MethodName) (ws : List Cond) (rm : Room) (mc ms : Nat) (D : va_G) (cy : ClassId) (av : List Value) (w0 : va_W) (pre : Prop) {S : Type} (w1 : S → va_W) (K : Int32 → S → Prop) : Prop := CtI l y ws rm mc ms D cy av w0 pre w1 (fun r u => nz r ∧ K r u)
def CtV (l : Launch) (y : MethodName) (ws : List Cond) (rm : Room) (mc ms : Nat) (D : va_G) (cy : ClassId) (av : List Value) (w0 : va_W) (pre : Prop) {S : Type} (w1 : S → va_W) (K : S → Prop) : Prop := ∀ sz : Nat, Met l y ws rm (va_Pc av (ct_pre D cy w0 sz pre)) (va_Qv K (ct_post D w1 (va_A w0 sz)) (va_A w0 sz)) mc ms (va_A w0 sz)
/-- what holds all along a method's walk -/
def am (p : Program) (s : State) (m : MethodId) (args : Array Value) (c : Code) (cc : ByteArray) (nL : Nat) (own : String) (Ts : List Cond) (D : va_G) (cy : ClassId) (A : Nat → Prop) : Prop := p.tables.exec = Jvm.exec ∧ c.code = cc ∧ c.maxLocals = nL ∧ s.vm.findClass own = some m.cls ∧ (∀ w ∈ Ts, w.before args s = true) ∧ dw D cy s ∧ ∀ q, s.heap.size ≤ q → A q
/-- the ends of a walk: from any return with the post the machine comes home -/
def rtI (p : Program) (l : Launch) (e : Env) (R : Room) (s : State) (m : MethodId) (args : Array Value) (below : List Frame) (meth : Method) (c : Code) (mc ms : Nat) (Q : State → Prop) (cc : ByteArray) (D : va_G) (A : Nat → Prop) {S : Type} (w1 : S → va_W) (K : Int32 → S → Prop) : Prop :=
  ∀ (pc : Nat) (r : Int32) (u : S) (H : Heap) (locs : List Loc) (ls : Array Slot), decode cc pc = .ok (.ireturn, 1) → K r u → wd D A s.heap (w1 u) H locs → W p l e R s m args below meth c H locs mc ms Q (F0 m pc ls [.int r])
def rtV (p : Program) (l : Launch) (e : Env) (R : Room) (s : State) (m : MethodId) (args : Array Value) (below : List Frame) (meth : Method) (c : Code) (mc ms : Nat) (Q : State → Prop) (cc : ByteArray) (D : va_G) (A : Nat → Prop) {S : Type} (w1 : S → va_W) (K : S → Prop) : Prop :=
  ∀ (pc : Nat) (u : S) (H : Heap) (locs : List Loc) (ls : Array Slot), decode cc pc = .ok (.return_, 1) → K u → wd D A s.heap (w1 u) H locs → W p l e R s m args below meth c H locs mc ms Q (F0 m pc ls [])
theorem CtI.mk {l : Launch} {y : MethodName} {ws ws' : List Cond} {rm : Room} {mc ms : Nat} {D : va_G} {cy : ClassId} {av : List Value} {w0 : va_W} {pre : Prop} {S : Type} {w1 : S → va_W} {K : Int32 → S → Prop} {cc : ByteArray} {nL : Nat} {ty : FieldType} (hy : plainName y.cls = true) (hw : ws = Cond.code y cc nL (some ty) :: ws') (hlen : (lg_sl av).length ≤ nL) (hn : ∀ r u, K r u → narrow ty (.int r) = .int r)
    (body : ∀ (p : Program) (e : Env) (s : State) (m : MethodId) (args : Array Value) (below : List Frame) (meth : Method) (c : Code) (A : Nat → Prop) (Q : State → Prop), am p s m args c cc nL y.cls ws D cy A → rtI p l e rm s m args below meth c mc ms Q cc D A w1 K → meth.name = y.name → pre → ∀ ls : Array Slot, lv_has ls nL (lv_args 0 av) → wd D A s.heap w0 s.heap [] → W p l e rm s m args below meth c s.heap [] 0 0 Q (F0 m 0 ls [])) : CtI l y ws rm mc ms D cy av w0 pre w1 K := by
  intro sz
  refine Met.ofW (cc := cc) (maxL := nL) (ret := some ty) hy hw ?_
  intro p e s m args below meth c s₁ B hml hv
  obtain ⟨rfl, hsz, hP, hK, hD0, hpre⟩ := hv
  have hlocks := B.notSynchronized
  have hr := B.returns
  subst hsz
  have hD := hD0.self (sz := s.heap.size)
  have hl := lv_entry av (n := nL) hlen
  rw [lg_entry_eq]
  exact body p e s m _ below meth c (va_A w0 s.heap.size) _ ⟨B.exec, B.bytes, hml, findClass_of_methodNamed B.named, atoms_spec (ws := ws) B.pre, hK, fun q h => Or.inr h⟩ (fun pc r u H locs ls hd hk hw => W.zret B.exec B.bytes hr (hn r u hk) (fun t ht hW => ⟨⟨r, u, rfl, hk, by rw [ht]; exact hw.1, hw.2.1⟩, hw.2.2.F ht⟩) hw.2.2.2.2 hd) (name_of_methodNamed B.named B.method).1 hpre _ hl ⟨hP, hD, va_S.rf⟩
theorem CtV.mk {l : Launch} {y : MethodName} {ws ws' : List Cond} {rm : Room} {mc ms : Nat} {D : va_G} {cy : ClassId} {av : List Value} {w0 : va_W} {pre : Prop} {S : Type} {w1 : S → va_W} {K : S → Prop} {cc : ByteArray} {nL : Nat} (hy : plainName y.cls = true) (hw : ws = Cond.code y cc nL none :: ws') (hlen : (lg_sl av).length ≤ nL)
    (body : ∀ (p : Program) (e : Env) (s : State) (m : MethodId) (args : Array Value) (below : List Frame) (meth : Method) (c : Code) (A : Nat → Prop) (Q : State → Prop), am p s m args c cc nL y.cls ws D cy A → rtV p l e rm s m args below meth c mc ms Q cc D A w1 K → meth.name = y.name → pre → ∀ ls : Array Slot, lv_has ls nL (lv_args 0 av) → wd D A s.heap w0 s.heap [] → W p l e rm s m args below meth c s.heap [] 0 0 Q (F0 m 0 ls [])) : CtV l y ws rm mc ms D cy av w0 pre w1 K := by
  intro sz
  refine Met.ofW (cc := cc) (maxL := nL) (ret := none) hy hw ?_
  intro p e s m args below meth c s₁ B hml hv
  obtain ⟨rfl, hsz, hP, hK, hD0, hpre⟩ := hv
  have hlocks := B.notSynchronized
  have hr := B.returns
  subst hsz
  have hD := hD0.self (sz := s.heap.size)
  have hl := lv_entry av (n := nL) hlen
  rw [lg_entry_eq]
  exact body p e s m _ below meth c (va_A w0 s.heap.size) _ ⟨B.exec, B.bytes, hml, findClass_of_methodNamed B.named, atoms_spec (ws := ws) B.pre, hK, fun q h => Or.inr h⟩ (fun pc u H locs ls hd hk hw => W.vret B.exec B.bytes hr (fun t ht hW => ⟨⟨u, rfl, hk, by rw [ht]; exact hw.1, hw.2.1⟩, hw.2.2.F ht⟩) hw.2.2.2.2 hd) (name_of_methodNamed B.named B.method).1 hpre _ hl ⟨hP, hD, va_S.rf⟩
section GL
variable {p : Program} {l : Launch} {e : Env} {R : Room} {s : State} {m : MethodId} {args : Array Value} {below : List Frame} {meth : Method} {c : Code} {H : Heap} {locs : List Loc} {cells slots : Nat} {Q : State → Prop}
variable {cc : ByteArray} {pc nL : Nat} {ls : Array Slot} {rest : List Value} {D : va_G} {cy : ClassId} {A : Nat → Prop} {a : Nat} {ws wn : va_W} {own : String} {Ts : List Cond}
theorem g_get (h : am p s m args c cc nL own Ts D cy A) (hw : wd D A s.heap ws H locs) {C : String} {T : u_T} {N ci index : Nat} (q0 k : Nat) {fs : List Value} {v : Value} (hc : vwCl[ci]? = some (C, T, N)) (hin : ∀ w ∈ u_ws C T N, w ∈ Ts) (hk : k < N) (hlink : Cond.fieldLink own index (T k).1 (T k).2.1 (T k).2.2.1 ∈ Ts) (he : ws[q0]? = some (a, .inr (ci, fs))) (hv : fs[k]? = some v) (hdg : decode cc pc = .ok (.getfield index, 3))
    (kk : W p l e R s m args below meth c H locs cells slots Q (F0 m (pc + 3) ls (v :: rest))) : W p l e R s m args below meth c H locs cells slots Q (F0 m pc ls (.ref a :: rest)) :=
  va_get (C := C) (T := T) (N := N) (ci := ci) h.1 h.2.1 h.2.2.2.2.1 hin h.2.2.2.1 h.2.2.2.2.2.1.1 hw.1 q0 he hc k hk (h.2.2.2.2.1 _ hlink) (fun _ h9 => h9) hv hdg kk
theorem g_getN (h : am p s m args c cc nL own Ts D cy A) (hw : wd D A s.heap ws H locs) {C : String} {T : u_T} {N ci index : Nat} (q0 k i : Nat) {fs : List Value} {v : Value} (hc : vwCl[ci]? = some (C, T, N)) (hin : ∀ w ∈ u_ws C T N, w ∈ Ts) (hk : k < N) (hlink : nfl[i]? = some (own, index, (T k).1, (T k).2.1, (T k).2.2.1, RX10)) (he : ws[q0]? = some (a, .inr (ci, fs))) (hv : fs[k]? = some v) (hdg : decode cc pc = .ok (.getfield index, 3))
    (kk : W p l e R s m args below meth c H locs cells slots Q (F0 m (pc + 3) ls (v :: rest))) : W p l e R s m args below meth c H locs cells slots Q (F0 m pc ls (.ref a :: rest)) :=
  va_getN (C := C) (T := T) (N := N) (ci := ci) (host := RX10) h.1 h.2.1 h.2.2.2.2.1 hin h.2.2.2.1 h.2.2.2.2.2.1.1 hw.1 q0 he hc k hk (h.2.2.2.2.2.1.fn i hlink) (fun _ h9 => h9) hv hdg kk
theorem g_put (h : am p s m args c cc nL own Ts D cy A) (hw : wd D A s.heap ws H locs) {C : String} {T : u_T} {N ci index : Nat} (q0 k : Nat) {fs : List Value} {v : Value} {ty0 : Nat → FieldType} (hc : vwCl[ci]? = some (C, T, N)) (hin : ∀ w ∈ u_ws C T N, w ∈ Ts) (hty : ∀ k, k < N → parseFieldDescriptor (T k).2.2.1 = some (ty0 k)) (hnm : ∀ a, a < N → ∀ b, b < N → a ≠ b → (T a).2.1 ≠ (T b).2.1) (hk : k < N) (hlink : Cond.fieldLink own index (T k).1 (T k).2.1 (T k).2.2.1 ∈ Ts) (hfin : (T k).2.2.2 = false) (hn : narrow (ty0 k) v = v) (hfit : fits (ty0 k) v = true) (he : ws[q0]? = some (a, .inr (ci, fs))) (hl : k < fs.length) (hnew : ws.set q0 (a, .inr (ci, fs.set k v)) = wn) (hdg : decode cc pc = .ok (.putfield index, 3))
    (kk : ∀ (H1 : Heap) (locs1 : List Loc), wd D A s.heap wn H1 locs1 → W p l e R s m args below meth c H1 locs1 cells slots Q (F0 m (pc + 3) ls rest)) : W p l e R s m args below meth c H locs cells slots Q (F0 m pc ls (v :: .ref a :: rest)) := by
  subst hnew
  exact va_put (C := C) (T := T) (N := N) (ci := ci) (v := v) (ty := ty0 k) h.1 h.2.1 h.2.2.2.2.1 hin ty0 hty hnm h.2.2.2.1 h.2.2.2.2.2.1.1 hw.1 hw.2.1 hw.2.2 q0 he hc k hk (h.2.2.2.2.1 _ hlink) (fun _ h9 => h9) hfin (hty k hk) hn hfit hl hdg (fun H1 locs1 a1 a2 a3 => kk H1 locs1 ⟨a1, a2, a3⟩)
theorem g_putN (h : am p s m args c cc nL own Ts D cy A) (hw : wd D A s.heap ws H locs) {C : String} {T : u_T} {N ci index : Nat} (q0 k i : Nat) {fs : List Value} {v : Value} {ty0 : Nat → FieldType} (hc : vwCl[ci]? = some (C, T, N)) (hin : ∀ w ∈ u_ws C T N, w ∈ Ts) (hty : ∀ k, k < N → parseFieldDescriptor (T k).2.2.1 = some (ty0 k)) (hnm : ∀ a, a < N → ∀ b, b < N → a ≠ b → (T a).2.1 ≠ (T b).2.1) (hk : k < N) (hlink : nfl[i]? = some (own, index, (T k).1, (T k).2.1, (T k).2.2.1, RX10)) (hfin : (T k).2.2.2 = false) (hn : narrow (ty0 k) v = v) (hfit : fits (ty0 k) v = true) (he : ws[q0]? = some (a, .inr (ci, fs))) (hl : k < fs.length) (hnew : ws.set q0 (a, .inr (ci, fs.set k v)) = wn) (hdg : decode cc pc = .ok (.putfield index, 3))
    (kk : ∀ (H1 : Heap) (locs1 : List Loc), wd D A s.heap wn H1 locs1 → W p l e R s m args below meth c H1 locs1 cells slots Q (F0 m (pc + 3) ls rest)) : W p l e R s m args below meth c H locs cells slots Q (F0 m pc ls (v :: .ref a :: rest)) := by
  subst hnew
  exact va_putN (C := C) (T := T) (N := N) (ci := ci) (v := v) (ty := ty0 k) (host := RX10) h.1 h.2.1 h.2.2.2.2.1 hin ty0 hty hnm h.2.2.2.1 h.2.2.2.2.2.1.1 hw.1 hw.2.1 hw.2.2 q0 he hc k hk (h.2.2.2.2.2.1.fn i hlink) (fun _ h9 => h9) hfin (hty k hk) hn hfit hl hdg (fun H1 locs1 a1 a2 a3 => kk H1 locs1 ⟨a1, a2, a3⟩)
theorem g_ald (h : am p s m args c cc nL own Ts D cy A) (hw : wd D A s.heap ws H locs) (q0 : Nat) {n : Nat} {f : Nat → Int32} {i : Int32} (he : ws[q0]? = some (a, .inl (cy, n, .inl f))) (hin : vp_in i n) (hdg : decode cc pc = .ok (.iaload, 1))
    (kk : W p l e R s m args below meth c H locs cells slots Q (F0 m (pc + 1) ls (.int (f i.toNatClampNeg) :: rest))) : W p l e R s m args below meth c H locs cells slots Q (F0 m pc ls (.int i :: .ref a :: rest)) :=
  va_iald h.1 h.2.1 h.2.2.2.2.2.1.1 hw.1 q0 0 he rfl hin hdg kk
theorem g_ast (h : am p s m args c cc nL own Ts D cy A) (hw : wd D A s.heap ws H locs) (q0 : Nat) {n : Nat} {f : Nat → Int32} {i x : Int32} (he : ws[q0]? = some (a, .inl (cy, n, .inl f))) (hin : vp_in i n) (hnew : ws.set q0 (a, .inl (cy, n, .inl (upd f i.toNatClampNeg x))) = wn) (hdg : decode cc pc = .ok (.iastore, 1))
    (kk : ∀ (H1 : Heap) (locs1 : List Loc), wd D A s.heap wn H1 locs1 → W p l e R s m args below meth c H1 locs1 cells slots Q (F0 m (pc + 1) ls rest)) : W p l e R s m args below meth c H locs cells slots Q (F0 m pc ls (.int x :: .int i :: .ref a :: rest)) := by
  subst hnew
  exact va_iast h.1 h.2.1 h.2.2.2.2.2.1.1 hw.1 hw.2.1 hw.2.2 q0 0 he rfl hin hdg (fun H1 locs1 a1 a2 a3 => kk H1 locs1 ⟨a1, a2, a3⟩)
theorem g_alen (h : am p s m args c cc nL own Ts D cy A) (hw : wd D A s.heap ws H locs) (q0 : Nat) {n : Nat} {f : Nat → Int32} {v : Int32} (he : ws[q0]? = some (a, .inl (cy, n, .inl f))) (hv : Int32.ofNat n = v) (hdg : decode cc pc = .ok (.arraylength, 1))
    (kk : W p l e R s m args below meth c H locs cells slots Q (F0 m (pc + 1) ls (.int v :: rest))) : W p l e R s m args below meth c H locs cells slots Q (F0 m pc ls (.ref a :: rest)) :=
  va_alen h.1 h.2.1 h.2.2.2.2.2.1.1 hw.1 q0 0 he rfl hv hdg kk
theorem g_cpy (h : am p s m args c cc nL own Ts D cy A) (hw : wd D A s.heap ws H locs) (hl : ls.size = nL) (q0 q1 : Nat) {a0 n0 n1 SP DP N index : Nat} {f g : Nat → Int32} {sp dp n : Int32} (hlink : Cond.methodLink own index arraycopyName ∈ Ts) (hnat : Cond.native arraycopyName ∈ Ts) (hstat : Cond.static arraycopyName ∈ Ts) (hini : Cond.initialized "java/lang/System" ∈ Ts) (he0 : ws[q0]? = some (a0, .inl (cy, n0, .inl f))) (he1 : ws[q1]? = some (a, .inl (cy, n1, .inl g))) (h1 : ¬ sp < 0) (h2 : ¬ dp < 0) (h3 : ¬ n < 0) (e1 : sp.toNatClampNeg = SP) (e2 : dp.toNatClampNeg = DP) (e3 : n.toNatClampNeg = N) (h4 : SP + N ≤ n0) (h5 : DP + N ≤ n1) (hframes : 1 ≤ R.frames) (hlocals : (rest.map fun v => v.category).sum + (nativeFrameWords "java/lang/System" "arraycopy" 5 + 11) ≤ R.locals) (hnew : ws.set q1 (a, .inl (cy, n1, .inl (va_cpy f g SP DP N))) = wn) (hdg : decode cc pc = .ok (.invokestatic index, 3))
    (kk : ∀ (H1 : Heap) (locs1 : List Loc), wd D A s.heap wn H1 locs1 → W p l e R s m args below meth c H1 locs1 cells slots Q (F0 m (pc + 3) ls rest)) : W p l e R s m args below meth c H locs cells slots Q (F0 m pc ls (.int n :: .int dp :: .ref a :: .int sp :: .ref a0 :: rest)) := by
  subst hnew; subst e1; subst e2; subst e3
  exact va_copyi (ty := .int) h.1 h.2.1 (h.2.2.1.trans hl.symm) h.2.2.2.1 (h.2.2.2.2.1 _ hlink) (h.2.2.2.2.1 _ hnat) (h.2.2.2.2.1 _ hstat) (h.2.2.2.2.1 _ hini) h.2.2.2.2.2.1.1 hw.1 hw.2.1 hw.2.2 q0 q1 0 0 he0 he1 rfl rfl rfl h1 h2 h3 h4 h5 (fun _ _ => rfl) hframes hlocals hdg (fun H1 locs1 a1 a2 a3 => kk H1 locs1 ⟨a1, a2, a3⟩)
/-- the frame rule: what a callee has done to the cells at isC, beside the rest, in the caller's own order -/
theorem g_frame {S : Type} {wc : va_W} {w1 : va_W} {H1 : Heap} {locs1 : List Loc} {H0 : Heap} (hw : wd D A H0 ws H locs) (hS : va_S A H0 H1 locs1) (isC isR pm : List Nat) (hC : isC.map (fun i => ws[i]?) = wc.map some) (hR : isR.map (fun i => ws[i]?) = (isR.filterMap (fun i => ws[i]?)).map some) (hn : va_nd isR = true) (hdis : ∀ i ∈ isR, i ∉ isC) (hk : ∀ q : Nat, q < H.size → ¬ va_A wc H.size q → H1[q]? = H[q]?) (hF : ∀ q, va_A wc H.size q → A q) (hP1 : va_P D vwCl w1 H1) (hD1 : va_D (va_A wc H.size) w1) (hpn : va_nd pm = true) (hpm : pm.map (fun i => (isR.filterMap (fun i => ws[i]?) ++ w1)[i]?) = wn.map some) : wd D A H0 wn H1 locs1 := by
  obtain ⟨hP, hD⟩ := va_join (wr := isR.filterMap (fun i => ws[i]?)) hw.1 hw.2.1 isC isR hC hR hn hdis hk hF hP1 hD1
  refine ⟨?_, hD.sub pm hpn hpm, hS⟩
  refine hP.sub pm ?_
  have e : pm.filterMap (fun i => (isR.filterMap (fun i => ws[i]?) ++ w1)[i]?) = (pm.map (fun i => (isR.filterMap (fun i => ws[i]?) ++ w1)[i]?)).filterMap id := by rw [List.filterMap_map]; rfl
  rw [e, hpm, List.filterMap_map]
  simp
/-- a call of an instance method that answers an int -/
theorem g_cvi {S : Type} {y : MethodName} {wsy : List Cond} {rm : Room} {mc ms : Nat} {As : List Value} {b : Nat} {wc : va_W} {pre : Prop} {w1 : S → va_W} {K : Int32 → S → Prop} {bytes : ByteArray} {maxL n index ci : Nat} {ret : Option FieldType} {C : String} {T : u_T} {N : Nat} {fs : List Value} {st0 : List Value} {wn : S → va_W} (h : am p s m args c cc nL own Ts D cy A) (hw : wd D A s.heap ws H locs) (hl : ls.size = nL) (hct : CtI l y wsy rm mc ms D cy (.ref b :: As) wc pre w1 K) (cw : CallW R s args own C index y bytes maxL ret wsy rm mc ms n) (isC isR pm : List Nat) (hC : isC.map (fun i => ws[i]?) = wc.map some) (hcn : va_nd isC = true) (hR : isR.map (fun i => ws[i]?) = (isR.filterMap (fun i => ws[i]?)).map some) (hn : va_nd isR = true) (hdis : ∀ i ∈ isR, i ∉ isC) (hpn : va_nd pm = true) (hpm : ∀ u, pm.map (fun i => (isR.filterMap (fun i => ws[i]?) ++ w1 u)[i]?) = (wn u).map some) (hrecv : wc[0]? = some (b, .inr (ci, fs))) (hci : vwCl[ci]? = some (C, T, N)) (hp : pre) (hlen : As.length = n) (hst : st0 = As.reverse ++ .ref b :: rest) (hroom : (rest.map fun v => v.category).sum ≤ 8) (hdg : decode cc pc = .ok (.invokevirtual index, 3)) (hf : cells + mc ≤ R.cells ∧ slots + ms ≤ R.slots)
    (kk : ∀ (r : Int32) (u : S) (H1 : Heap) (locs1 : List Loc), K r u → wd D A s.heap (wn u) H1 locs1 → W p l e R s m args below meth c H1 locs1 (cells + mc) (slots + ms) Q (F0 m (pc + 3) ls (.int r :: rest))) : W p l e R s m args below meth c H locs cells slots Q (F0 m pc ls st0) := by
  subst hst
  have hPc : va_P D vwCl wc H := hw.1.sub isC (by
    have e : isC.filterMap (fun i => ws[i]?) = (isC.map (fun i => ws[i]?)).filterMap id := by rw [List.filterMap_map]; rfl
    rw [e, hC, List.filterMap_map]; simp)
  have hDc := hw.2.1.sub (ws' := wc) isC hcn hC
  have hFc := va_free (wc := wc) hw.2.1 hw.2.2 h.2.2.2.2.2.2 isC hC
  refine va_calli (va_runV (As := As) (rest := rest) ⟨h.1, h.2.1, h.2.2.1, h.2.2.2.1, h.2.2.2.2.1⟩ (hct H.size) cw ⟨ct_blind, va_recv h.2.2.2.2.2.1.1 hPc (ci := ci) (q0 := 0) hci hrecv, ct_enter hPc hDc h.2.2.2.2.2.1 hp⟩ rfl hlen hl rfl (lv_room hroom) hdg hf) hw.2.2 (fun q _ h => hFc q h) hFc (fun r u t H1 locs1 ht hvm hk hB hz1 hk1 hS => ?_)
  obtain ⟨hP1, hD1⟩ := hB
  rw [ht] at hP1
  exact kk r u H1 locs1 hk (g_frame (S := S) hw hS isC isR pm hC hR hn hdis hk1 hFc hP1 hD1 hpn (hpm u))
theorem g_cvv {S : Type} {y : MethodName} {wsy : List Cond} {rm : Room} {mc ms : Nat} {As : List Value} {b : Nat} {wc : va_W} {pre : Prop} {w1 : S → va_W} {K : S → Prop} {bytes : ByteArray} {maxL n index ci : Nat} {ret : Option FieldType} {C : String} {T : u_T} {N : Nat} {fs : List Value} {st0 : List Value} {wn : S → va_W} (h : am p s m args c cc nL own Ts D cy A) (hw : wd D A s.heap ws H locs) (hl : ls.size = nL) (hct : CtV l y wsy rm mc ms D cy (.ref b :: As) wc pre w1 K) (cw : CallW R s args own C index y bytes maxL ret wsy rm mc ms n) (isC isR pm : List Nat) (hC : isC.map (fun i => ws[i]?) = wc.map some) (hcn : va_nd isC = true) (hR : isR.map (fun i => ws[i]?) = (isR.filterMap (fun i => ws[i]?)).map some) (hn : va_nd isR = true) (hdis : ∀ i ∈ isR, i ∉ isC) (hpn : va_nd pm = true) (hpm : ∀ u, pm.map (fun i => (isR.filterMap (fun i => ws[i]?) ++ w1 u)[i]?) = (wn u).map some) (hrecv : wc[0]? = some (b, .inr (ci, fs))) (hci : vwCl[ci]? = some (C, T, N)) (hp : pre) (hlen : As.length = n) (hst : st0 = As.reverse ++ .ref b :: rest) (hroom : (rest.map fun v => v.category).sum ≤ 8) (hdg : decode cc pc = .ok (.invokevirtual index, 3)) (hf : cells + mc ≤ R.cells ∧ slots + ms ≤ R.slots)
    (kk : ∀ (u : S) (H1 : Heap) (locs1 : List Loc), K u → wd D A s.heap (wn u) H1 locs1 → W p l e R s m args below meth c H1 locs1 (cells + mc) (slots + ms) Q (F0 m (pc + 3) ls rest)) : W p l e R s m args below meth c H locs cells slots Q (F0 m pc ls st0) := by
  subst hst
  have hPc : va_P D vwCl wc H := hw.1.sub isC (by
    have e : isC.filterMap (fun i => ws[i]?) = (isC.map (fun i => ws[i]?)).filterMap id := by rw [List.filterMap_map]; rfl
    rw [e, hC, List.filterMap_map]; simp)
  have hDc := hw.2.1.sub (ws' := wc) isC hcn hC
  have hFc := va_free (wc := wc) hw.2.1 hw.2.2 h.2.2.2.2.2.2 isC hC
  refine va_callv (va_runV (As := As) (rest := rest) ⟨h.1, h.2.1, h.2.2.1, h.2.2.2.1, h.2.2.2.2.1⟩ (hct H.size) cw ⟨ct_blind, va_recv h.2.2.2.2.2.1.1 hPc (ci := ci) (q0 := 0) hci hrecv, ct_enter hPc hDc h.2.2.2.2.2.1 hp⟩ rfl hlen hl rfl (lv_room hroom) hdg hf) hw.2.2 (fun q _ h => hFc q h) hFc (fun u t H1 locs1 ht hvm hk hB hz1 hk1 hS => ?_)
  obtain ⟨hP1, hD1⟩ := hB
  rw [ht] at hP1
  exact kk u H1 locs1 hk (g_frame (S := S) hw hS isC isR pm hC hR hn hdis hk1 hFc hP1 hD1 hpn (hpm u))
theorem g_csi {S : Type} {y : MethodName} {wsy : List Cond} {rm : Room} {mc ms : Nat} {As : List Value} {wc : va_W} {pre : Prop} {w1 : S → va_W} {K : Int32 → S → Prop} {bytes : ByteArray} {maxL n index : Nat} {ret : Option FieldType} {st0 : List Value} {wn : S → va_W} (h : am p s m args c cc nL own Ts D cy A) (hw : wd D A s.heap ws H locs) (hl : ls.size = nL) (hct : CtI l y wsy rm mc ms D cy As wc pre w1 K) (cw : CallB R s args own index y bytes maxL ret wsy rm mc ms n ∧ (Cond.static y).before args s = true) (isC isR pm : List Nat) (hC : isC.map (fun i => ws[i]?) = wc.map some) (hcn : va_nd isC = true) (hR : isR.map (fun i => ws[i]?) = (isR.filterMap (fun i => ws[i]?)).map some) (hn : va_nd isR = true) (hdis : ∀ i ∈ isR, i ∉ isC) (hpn : va_nd pm = true) (hpm : ∀ u, pm.map (fun i => (isR.filterMap (fun i => ws[i]?) ++ w1 u)[i]?) = (wn u).map some) (hp : pre) (hlen : As.length = n) (hst : st0 = As.reverse ++ rest) (hroom : (rest.map fun v => v.category).sum ≤ 8) (hdg : decode cc pc = .ok (.invokestatic index, 3)) (hf : cells + mc ≤ R.cells ∧ slots + ms ≤ R.slots)
    (kk : ∀ (r : Int32) (u : S) (H1 : Heap) (locs1 : List Loc), K r u → wd D A s.heap (wn u) H1 locs1 → W p l e R s m args below meth c H1 locs1 (cells + mc) (slots + ms) Q (F0 m (pc + 3) ls (.int r :: rest))) : W p l e R s m args below meth c H locs cells slots Q (F0 m pc ls st0) := by
  subst hst
  have hPc : va_P D vwCl wc H := hw.1.sub isC (by
    have e : isC.filterMap (fun i => ws[i]?) = (isC.map (fun i => ws[i]?)).filterMap id := by rw [List.filterMap_map]; rfl
    rw [e, hC, List.filterMap_map]; simp)
  have hDc := hw.2.1.sub (ws' := wc) isC hcn hC
  have hFc := va_free (wc := wc) hw.2.1 hw.2.2 h.2.2.2.2.2.2 isC hC
  refine va_calli (va_runS (As := As) (rest := rest) ⟨h.1, h.2.1, h.2.2.1, h.2.2.2.1, h.2.2.2.2.1⟩ (hct H.size) cw ⟨ct_blind, ct_enter hPc hDc h.2.2.2.2.2.1 hp⟩ rfl hlen hl rfl (lv_room hroom) hdg hf) hw.2.2 (fun q _ h => hFc q h) hFc (fun r u t H1 locs1 ht hvm hk hB hz1 hk1 hS => ?_)
  obtain ⟨hP1, hD1⟩ := hB
  rw [ht] at hP1
  exact kk r u H1 locs1 hk (g_frame (S := S) hw hS isC isR pm hC hR hn hdis hk1 hFc hP1 hD1 hpn (hpm u))
theorem g_csv {S : Type} {y : MethodName} {wsy : List Cond} {rm : Room} {mc ms : Nat} {As : List Value} {wc : va_W} {pre : Prop} {w1 : S → va_W} {K : S → Prop} {bytes : ByteArray} {maxL n index : Nat} {ret : Option FieldType} {st0 : List Value} {wn : S → va_W} (h : am p s m args c cc nL own Ts D cy A) (hw : wd D A s.heap ws H locs) (hl : ls.size = nL) (hct : CtV l y wsy rm mc ms D cy As wc pre w1 K) (cw : CallB R s args own index y bytes maxL ret wsy rm mc ms n ∧ (Cond.static y).before args s = true) (isC isR pm : List Nat) (hC : isC.map (fun i => ws[i]?) = wc.map some) (hcn : va_nd isC = true) (hR : isR.map (fun i => ws[i]?) = (isR.filterMap (fun i => ws[i]?)).map some) (hn : va_nd isR = true) (hdis : ∀ i ∈ isR, i ∉ isC) (hpn : va_nd pm = true) (hpm : ∀ u, pm.map (fun i => (isR.filterMap (fun i => ws[i]?) ++ w1 u)[i]?) = (wn u).map some) (hp : pre) (hlen : As.length = n) (hst : st0 = As.reverse ++ rest) (hroom : (rest.map fun v => v.category).sum ≤ 8) (hdg : decode cc pc = .ok (.invokestatic index, 3)) (hf : cells + mc ≤ R.cells ∧ slots + ms ≤ R.slots)
    (kk : ∀ (u : S) (H1 : Heap) (locs1 : List Loc), K u → wd D A s.heap (wn u) H1 locs1 → W p l e R s m args below meth c H1 locs1 (cells + mc) (slots + ms) Q (F0 m (pc + 3) ls rest)) : W p l e R s m args below meth c H locs cells slots Q (F0 m pc ls st0) := by
  subst hst
  have hPc : va_P D vwCl wc H := hw.1.sub isC (by
    have e : isC.filterMap (fun i => ws[i]?) = (isC.map (fun i => ws[i]?)).filterMap id := by rw [List.filterMap_map]; rfl
    rw [e, hC, List.filterMap_map]; simp)
  have hDc := hw.2.1.sub (ws' := wc) isC hcn hC
  have hFc := va_free (wc := wc) hw.2.1 hw.2.2 h.2.2.2.2.2.2 isC hC
  refine va_callv (va_runS (As := As) (rest := rest) ⟨h.1, h.2.1, h.2.2.1, h.2.2.2.1, h.2.2.2.2.1⟩ (hct H.size) cw ⟨ct_blind, ct_enter hPc hDc h.2.2.2.2.2.1 hp⟩ rfl hlen hl rfl (lv_room hroom) hdg hf) hw.2.2 (fun q _ h => hFc q h) hFc (fun u t H1 locs1 ht hvm hk hB hz1 hk1 hS => ?_)
  obtain ⟨hP1, hD1⟩ := hB
  rw [ht] at hP1
  exact kk u H1 locs1 hk (g_frame (S := S) hw hS isC isR pm hC hR hn hdis hk1 hFc hP1 hD1 hpn (hpm u))
end GL
