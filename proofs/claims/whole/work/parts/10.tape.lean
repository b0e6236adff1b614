theorem hq_X8_size : yX8_size.cls = RX8 ∧ yX8_size.cls ≠ "java/lang/invoke/MethodHandle" ∧ yX8_size.cls ≠ "java/lang/invoke/VarHandle" ∧ (parseMethodDescriptor yX8_size.desc).map (fun d => d.parameters.length) = some 0 := by decide +kernel
def w_X8_size (cy : ClassId) (a_this : Nat) (w_bytes : Value) (v_length : Int32) : va_W := [(a_this, .inr (8, [w_bytes, .int v_length]))]
theorem hi_X8_size_8 : ∀ w ∈ u_ws RX8 TX8 2, w ∈ wsX8_size := fun _ h => List.mem_cons_of_mem _ (List.mem_append_right _ h)
def wp_X8_size (v_length : Int32) (K : Int32 → Prop) : Prop := K v_length
set_option maxHeartbeats 4000000 in
set_option maxRecDepth 100000 in
theorem c_X8_size {l : Launch} {D : va_G} {cy : ClassId} {a_this : Nat} {w_bytes : Value} {v_length : Int32} {K : Int32 → Prop} : CtI l yX8_size wsX8_size { frames := 1, cells := 0, slots := 0, locals := 64 } 0 0 D cy [.ref a_this] (w_X8_size cy a_this w_bytes v_length) (wp_X8_size v_length K) (fun (u : Unit) => (w_X8_size cy a_this w_bytes v_length)) (fun (r : Int32) (u : Unit) => K r) := by
  refine CtI.mk (cc := cX8_size) (nL := 1) (ty := .int) (by decide) rfl (Nat.le_of_ble_eq_true rfl) (fun r u h => rfl) ?_
  intro p e s m args below meth c A Q ha hr _ h ls hl hw
  have ha : am p s m args c cX8_size 1 RX8 wsX8_size D cy A := ha
  have hx := ha.1
  have hb := ha.2.1
  have hl : lv_has ls 1 [(0, .ref a_this)] := hl
  have h : K v_length := h
  refine lv_aload_n hx hb dX8_size_0 rfl (lv_at hl 0 rfl) ?_
  refine g_get (ci := 8) ha hw 0 1 rfl hi_X8_size_8 (by decide) (List.mem_of_getElem? (i := 1) rfl) rfl rfl dX8_size_1 ?_
  exact hr _ _ () _ _ _ dX8_size_4 h hw
theorem hq_X8_byteAt : yX8_byteAt.cls = RX8 ∧ yX8_byteAt.cls ≠ "java/lang/invoke/MethodHandle" ∧ yX8_byteAt.cls ≠ "java/lang/invoke/VarHandle" ∧ (parseMethodDescriptor yX8_byteAt.desc).map (fun d => d.parameters.length) = some 1 := by decide +kernel
def w_X8_byteAt (cy : ClassId) (a_this a_bytes : Nat) (v_bytes : IA) (v_length : Int32) : va_W := [(a_this, .inr (8, [.ref a_bytes, .int v_length])), (a_bytes, .inl (cy, 48, .inl v_bytes))]
theorem hi_X8_byteAt_8 : ∀ w ∈ u_ws RX8 TX8 2, w ∈ wsX8_byteAt := fun _ h => List.mem_cons_of_mem _ (List.mem_append_right _ h)
def wp_X8_byteAt (x1 : Int32) (v_bytes : IA) (v_length : Int32) (K : Int32 → Prop) : Prop := (x1 < 0 → K (-1 : Int32)) ∧ (¬ (x1 < 0) → (v_length ≤ x1 → K (-1 : Int32)) ∧ (¬ (v_length ≤ x1) → vp_in x1 48 ∧ (K (v_bytes x1.toNatClampNeg))))
set_option maxHeartbeats 4000000 in
set_option maxRecDepth 100000 in
theorem c_X8_byteAt {l : Launch} {D : va_G} {cy : ClassId} {a_this a_bytes : Nat} {v_bytes : IA} {v_length : Int32} {x1 : Int32} {K : Int32 → Prop} : CtI l yX8_byteAt wsX8_byteAt { frames := 1, cells := 0, slots := 0, locals := 64 } 0 0 D cy [.ref a_this, .int x1] (w_X8_byteAt cy a_this a_bytes v_bytes v_length) (wp_X8_byteAt x1 v_bytes v_length K) (fun (u : Unit) => (w_X8_byteAt cy a_this a_bytes v_bytes v_length)) (fun (r : Int32) (u : Unit) => K r) := by
  refine CtI.mk (cc := cX8_byteAt) (nL := 2) (ty := .int) (by decide) rfl (Nat.le_of_ble_eq_true rfl) (fun r u h => rfl) ?_
  intro p e s m args below meth c A Q ha hr _ h ls hl hw
  have ha : am p s m args c cX8_byteAt 2 RX8 wsX8_byteAt D cy A := ha
  have hx := ha.1
  have hb := ha.2.1
  have hl : lv_has ls 2 [(0, .ref a_this), (1, .int x1)] := hl
  have h : (x1 < 0 → K (-1 : Int32)) ∧ (¬ (x1 < 0) → (v_length ≤ x1 → K (-1 : Int32)) ∧ (¬ (v_length ≤ x1) → vp_in x1 48 ∧ (K (v_bytes x1.toNatClampNeg)))) := h
  refine lv_iload_n hx hb dX8_byteAt_0 rfl (lv_at hl 1 rfl) ?_
  refine lv_if_lt (tgt := 21) hx hb dX8_byteAt_1 (by decide) (fun c1 => ?_) (fun c1 => ?_)
  · have h := h.1 c1
    refine lv_iconst (v := (-1 : Int32)) hx hb dX8_byteAt_21 (by decide) ?_
    exact hr _ _ () _ _ _ dX8_byteAt_22 h hw
  · have h := h.2 c1
    refine lv_iload_n hx hb dX8_byteAt_4 rfl (lv_at hl 1 rfl) ?_
    refine lv_aload_n hx hb dX8_byteAt_5 rfl (lv_at hl 0 rfl) ?_
    refine g_get (ci := 8) ha hw 0 1 rfl hi_X8_byteAt_8 (by decide) (List.mem_of_getElem? (i := 1) rfl) rfl rfl dX8_byteAt_6 ?_
    refine lv_icmp_ge (tgt := 21) hx hb dX8_byteAt_9 (by decide) (fun c2 => ?_) (fun c2 => ?_)
    · have h := h.1 c2
      refine lv_iconst (v := (-1 : Int32)) hx hb dX8_byteAt_21 (by decide) ?_
      exact hr _ _ () _ _ _ dX8_byteAt_22 h hw
    · have h := h.2 c2
      refine lv_aload_n hx hb dX8_byteAt_12 rfl (lv_at hl 0 rfl) ?_
      refine g_get (ci := 8) ha hw 0 0 rfl hi_X8_byteAt_8 (by decide) (List.mem_of_getElem? (i := 2) rfl) rfl rfl dX8_byteAt_13 ?_
      refine lv_iload_n hx hb dX8_byteAt_16 rfl (lv_at hl 1 rfl) ?_
      obtain ⟨z3, h⟩ := h
      refine g_ald ha hw 1 rfl z3 dX8_byteAt_17 ?_
      refine lv_goto (tgt := 22) hx hb dX8_byteAt_18 (by decide) ?_
      exact hr _ _ () _ _ _ dX8_byteAt_22 h hw
theorem hq_X8_hasRoomFor : yX8_hasRoomFor.cls = RX8 ∧ yX8_hasRoomFor.cls ≠ "java/lang/invoke/MethodHandle" ∧ yX8_hasRoomFor.cls ≠ "java/lang/invoke/VarHandle" ∧ (parseMethodDescriptor yX8_hasRoomFor.desc).map (fun d => d.parameters.length) = some 1 := by decide +kernel
def w_X8_hasRoomFor (cy : ClassId) (a_this : Nat) (w_bytes : Value) (v_length : Int32) : va_W := [(a_this, .inr (8, [w_bytes, .int v_length]))]
theorem hi_X8_hasRoomFor_8 : ∀ w ∈ u_ws RX8 TX8 2, w ∈ wsX8_hasRoomFor := fun _ h => List.mem_cons_of_mem _ (List.mem_append_right _ h)
def wp_X8_hasRoomFor (x1 : Int32) (v_length : Int32) (K : Int32 → Prop) : Prop := (((48 : Int32) - v_length) < x1 → K (0 : Int32)) ∧ (¬ (((48 : Int32) - v_length) < x1) → K (1 : Int32))
set_option maxHeartbeats 4000000 in
set_option maxRecDepth 100000 in
theorem c_X8_hasRoomFor {l : Launch} {D : va_G} {cy : ClassId} {a_this : Nat} {w_bytes : Value} {v_length : Int32} {x1 : Int32} {K : Int32 → Prop} : CtI l yX8_hasRoomFor wsX8_hasRoomFor { frames := 1, cells := 0, slots := 0, locals := 64 } 0 0 D cy [.ref a_this, .int x1] (w_X8_hasRoomFor cy a_this w_bytes v_length) (wp_X8_hasRoomFor x1 v_length K) (fun (u : Unit) => (w_X8_hasRoomFor cy a_this w_bytes v_length)) (fun (r : Int32) (u : Unit) => nz r ∧ K r) := by
  refine CtI.mk (cc := cX8_hasRoomFor) (nL := 2) (ty := .boolean) (by decide) rfl (Nat.le_of_ble_eq_true rfl) (fun r u h => h.1.nar) ?_
  intro p e s m args below meth c A Q ha hr _ h ls hl hw
  have ha : am p s m args c cX8_hasRoomFor 2 RX8 wsX8_hasRoomFor D cy A := ha
  have hx := ha.1
  have hb := ha.2.1
  have hl : lv_has ls 2 [(0, .ref a_this), (1, .int x1)] := hl
  have h : (((48 : Int32) - v_length) < x1 → K (0 : Int32)) ∧ (¬ (((48 : Int32) - v_length) < x1) → K (1 : Int32)) := h
  refine lv_iload_n hx hb dX8_hasRoomFor_0 rfl (lv_at hl 1 rfl) ?_
  refine lv_bipush (v := (48 : Int32)) hx hb dX8_hasRoomFor_1 (by decide) ?_
  refine lv_aload_n hx hb dX8_hasRoomFor_3 rfl (lv_at hl 0 rfl) ?_
  refine g_get (ci := 8) ha hw 0 1 rfl hi_X8_hasRoomFor_8 (by decide) (List.mem_of_getElem? (i := 1) rfl) rfl rfl dX8_hasRoomFor_4 ?_
  refine lv_isub hx hb dX8_hasRoomFor_7 ?_
  refine lv_icmp_gt (tgt := 15) hx hb dX8_hasRoomFor_8 (by decide) (fun c1 => ?_) (fun c1 => ?_)
  · have h := h.1 c1
    refine lv_iconst (v := (0 : Int32)) hx hb dX8_hasRoomFor_15 (by decide) ?_
    exact hr _ _ () _ _ _ dX8_hasRoomFor_16 ⟨nz0, h⟩ hw
  · have h := h.2 c1
    refine lv_iconst (v := (1 : Int32)) hx hb dX8_hasRoomFor_11 (by decide) ?_
    refine lv_goto (tgt := 16) hx hb dX8_hasRoomFor_12 (by decide) ?_
    exact hr _ _ () _ _ _ dX8_hasRoomFor_16 ⟨nz1, h⟩ hw
theorem hq_X8_append : yX8_append.cls = RX8 ∧ yX8_append.cls ≠ "java/lang/invoke/MethodHandle" ∧ yX8_append.cls ≠ "java/lang/invoke/VarHandle" ∧ (parseMethodDescriptor yX8_append.desc).map (fun d => d.parameters.length) = some 2 := by decide +kernel
def w_X8_append (cy : ClassId) (a_this a_bytes : Nat) (v_bytes : IA) (v_length : Int32) : va_W := [(a_this, .inr (8, [.ref a_bytes, .int v_length])), (a_bytes, .inl (cy, 48, .inl v_bytes))]
theorem hi_X8_append_8 : ∀ w ∈ u_ws RX8 TX8 2, w ∈ wsX8_append := fun _ h => List.mem_cons_of_mem _ (List.mem_append_right _ h)
def wp_X8_append_3 (x1 : Int32) (x2 : Int64) (K : IA → Int32 → Prop) : Nat → Int32 → IA → Int32 → Prop
  | 0, _, _, _ => False
  | n + 1, x4, v_bytes, v_length => (x1 ≤ x4 → K v_bytes v_length) ∧ (¬ (x1 ≤ x4) → ((48 : Int32) ≤ v_length → K v_bytes v_length) ∧ (¬ ((48 : Int32) ≤ v_length) → vp_in v_length 48 ∧ (wp_X8_append_3 x1 x2 K n (x4 + (1 : Int32)) (upd v_bytes v_length.toNatClampNeg ((((x2.toUInt64 >>> (((8 : Int32) * x4).toInt64.toUInt64 &&& Int64.toUInt64 63)).toInt64).toInt32) &&& (255 : Int32))) (v_length + (1 : Int32)))))
set_option maxHeartbeats 4000000 in
set_option maxRecDepth 100000 in
theorem pl_X8_append_3 {p : Program} {l : Launch} {e : Env} {s : State} {m : MethodId} {args : Array Value} {below : List Frame} {meth : Method} {c : Code} {A : Nat → Prop} {Q : State → Prop} {D : va_G} {cy : ClassId} {a_this a_bytes : Nat} {x1 : Int32} {x2 : Int64} {K : IA → Int32 → Prop} (ha : am p s m args c cX8_append 5 RX8 wsX8_append D cy A) (hr : rtV p l e { frames := 1, cells := 0, slots := 0, locals := 64 } s m args below meth c 0 0 Q cX8_append D A (fun (u : IA × Int32) => (w_X8_append cy a_this a_bytes u.1 u.2)) (fun (u : IA × Int32) => K u.1 u.2)) : ∀ (n : Nat) (x4 : Int32) (v_bytes : IA) (v_length : Int32) (H : Heap) (locs : List Loc) (ls : Array Slot), wp_X8_append_3 x1 x2 K n x4 v_bytes v_length → wd D A s.heap (w_X8_append cy a_this a_bytes v_bytes v_length) H locs → lv_has ls 5 [(0, .ref a_this), (1, .int x1), (2, .long x2), (4, .int x4)] → W p l e { frames := 1, cells := 0, slots := 0, locals := 64 } s m args below meth c H locs 0 0 Q (F0 m 3 ls []) := by
  have hx := ha.1
  have hb := ha.2.1
  intro n
  induction n with
  | zero => exact fun _ _ _ _ _ _ h _ _ => False.elim h
  | succ n ih =>
    intro x4 v_bytes v_length H locs ls h hw hl
    have h : (x1 ≤ x4 → K v_bytes v_length) ∧ (¬ (x1 ≤ x4) → ((48 : Int32) ≤ v_length → K v_bytes v_length) ∧ (¬ ((48 : Int32) ≤ v_length) → vp_in v_length 48 ∧ (wp_X8_append_3 x1 x2 K n (x4 + (1 : Int32)) (upd v_bytes v_length.toNatClampNeg ((((x2.toUInt64 >>> (((8 : Int32) * x4).toInt64.toUInt64 &&& Int64.toUInt64 63)).toInt64).toInt32) &&& (255 : Int32))) (v_length + (1 : Int32))))) := h
    refine lv_iload hx hb dX8_append_3 (lv_at hl 3 rfl) ?_
    refine lv_iload_n hx hb dX8_append_5 rfl (lv_at hl 1 rfl) ?_
    refine lv_icmp_ge (tgt := 55) hx hb dX8_append_6 (by decide) (fun c1 => ?_) (fun c1 => ?_)
    · have h := h.1 c1
      exact hr _ (v_bytes, v_length) _ _ _ dX8_append_55 h hw
    · have h := h.2 c1
      refine lv_aload_n hx hb dX8_append_9 rfl (lv_at hl 0 rfl) ?_
      refine g_get (ci := 8) ha hw 0 1 rfl hi_X8_append_8 (by decide) (List.mem_of_getElem? (i := 1) rfl) rfl rfl dX8_append_10 ?_
      refine lv_bipush (v := (48 : Int32)) hx hb dX8_append_13 (by decide) ?_
      refine lv_icmp_ge (tgt := 55) hx hb dX8_append_15 (by decide) (fun c2 => ?_) (fun c2 => ?_)
      · have h := h.1 c2
        exact hr _ (v_bytes, v_length) _ _ _ dX8_append_55 h hw
      · have h := h.2 c2
        refine lv_aload_n hx hb dX8_append_18 rfl (lv_at hl 0 rfl) ?_
        refine g_get (ci := 8) ha hw 0 0 rfl hi_X8_append_8 (by decide) (List.mem_of_getElem? (i := 2) rfl) rfl rfl dX8_append_19 ?_
        refine lv_aload_n hx hb dX8_append_22 rfl (lv_at hl 0 rfl) ?_
        refine g_get (ci := 8) ha hw 0 1 rfl hi_X8_append_8 (by decide) (List.mem_of_getElem? (i := 1) rfl) rfl rfl dX8_append_23 ?_
        refine lv_lload_n hx hb dX8_append_26 rfl (lv_at hl 2 rfl) ?_
        refine lv_bipush (v := (8 : Int32)) hx hb dX8_append_27 (by decide) ?_
        refine lv_iload hx hb dX8_append_29 (lv_at hl 3 rfl) ?_
        refine lv_imul hx hb dX8_append_31 ?_
        refine lv_lushr hx hb dX8_append_32 rfl ?_
        refine lv_l2i hx hb dX8_append_33 rfl ?_
        refine lv_sipush (v := (255 : Int32)) hx hb dX8_append_34 (by decide) ?_
        refine lv_iand hx hb dX8_append_37 ?_
        obtain ⟨z3, h⟩ := h
        refine g_ast (wn := (w_X8_append cy a_this a_bytes (upd v_bytes v_length.toNatClampNeg ((((x2.toUInt64 >>> (((8 : Int32) * x4).toInt64.toUInt64 &&& Int64.toUInt64 63)).toInt64).toInt32) &&& (255 : Int32))) v_length)) ha hw 1 rfl z3 rfl dX8_append_38 (fun H locs hw => ?_)
        refine lv_aload_n hx hb dX8_append_39 rfl (lv_at hl 0 rfl) ?_
        refine lv_dup hx hb dX8_append_40 rfl ?_
        refine g_get (ci := 8) ha hw 0 1 rfl hi_X8_append_8 (by decide) (List.mem_of_getElem? (i := 1) rfl) rfl rfl dX8_append_41 ?_
        refine lv_iconst (v := (1 : Int32)) hx hb dX8_append_44 (by decide) ?_
        refine lv_iadd hx hb dX8_append_45 ?_
        refine g_put (ci := 8) (wn := (w_X8_append cy a_this a_bytes (upd v_bytes v_length.toNatClampNeg ((((x2.toUInt64 >>> (((8 : Int32) * x4).toInt64.toUInt64 &&& Int64.toUInt64 63)).toInt64).toInt32) &&& (255 : Int32))) (v_length + (1 : Int32)))) ha hw 0 1 rfl hi_X8_append_8 tyX8_ok nmX8 (by decide) (List.mem_of_getElem? (i := 1) rfl) rfl rfl rfl rfl (Nat.le_of_ble_eq_true rfl) rfl dX8_append_46 (fun H locs hw => ?_)
        refine lv_iinc (v := x4 + (1 : Int32)) (lv' := [(4, .int (x4 + (1 : Int32))), (0, .ref a_this), (1, .int x1), (2, .long x2)]) hx hb dX8_append_49 hl (k := 3) rfl rfl (by decide) rfl (fun ls hl => ?_)
        refine lv_goto (tgt := 3) hx hb dX8_append_52 (by decide) ?_
        exact ih _ _ _ _ _ _ h hw (lv_sub hl [1, 2, 3, 0] rfl)
def wp_X8_append (x1 : Int32) (x2 : Int64) (v_bytes : IA) (v_length : Int32) (K : IA → Int32 → Prop) : Prop := ∃ n4 : Nat, wp_X8_append_3 x1 x2 K n4 (0 : Int32) v_bytes v_length
set_option maxHeartbeats 4000000 in
set_option maxRecDepth 100000 in
theorem c_X8_append {l : Launch} {D : va_G} {cy : ClassId} {a_this a_bytes : Nat} {v_bytes : IA} {v_length : Int32} {x1 : Int32} {x2 : Int64} {K : IA → Int32 → Prop} : CtV l yX8_append wsX8_append { frames := 1, cells := 0, slots := 0, locals := 64 } 0 0 D cy [.ref a_this, .int x1, .long x2] (w_X8_append cy a_this a_bytes v_bytes v_length) (wp_X8_append x1 x2 v_bytes v_length K) (fun (u : IA × Int32) => (w_X8_append cy a_this a_bytes u.1 u.2)) (fun (u : IA × Int32) => K u.1 u.2) := by
  refine CtV.mk (cc := cX8_append) (nL := 5) (by decide) rfl (Nat.le_of_ble_eq_true rfl) ?_
  intro p e s m args below meth c A Q ha hr _ h ls hl hw
  have ha : am p s m args c cX8_append 5 RX8 wsX8_append D cy A := ha
  have hx := ha.1
  have hb := ha.2.1
  have hl : lv_has ls 5 [(0, .ref a_this), (1, .int x1), (2, .long x2)] := hl
  have h : ∃ n4 : Nat, wp_X8_append_3 x1 x2 K n4 (0 : Int32) v_bytes v_length := h
  refine lv_iconst (v := (0 : Int32)) hx hb dX8_append_0 (by decide) ?_
  refine lv_istore (lv' := [(4, .int (0 : Int32)), (0, .ref a_this), (1, .int x1), (2, .long x2)]) hx hb dX8_append_1 hl (by decide) rfl (fun ls hl => ?_)
  obtain ⟨n9, h⟩ := h
  refine pl_X8_append_3 ha hr n9 _ _ _ _ _ _ h hw (lv_sub hl [1, 2, 3, 0] rfl)
theorem hq_X8_empty : yX8_empty.cls = RX8 ∧ yX8_empty.cls ≠ "java/lang/invoke/MethodHandle" ∧ yX8_empty.cls ≠ "java/lang/invoke/VarHandle" ∧ (parseMethodDescriptor yX8_empty.desc).map (fun d => d.parameters.length) = some 0 := by decide +kernel
def w_X8_empty (cy : ClassId) (a_this : Nat) (w_bytes : Value) (v_length : Int32) : va_W := [(a_this, .inr (8, [w_bytes, .int v_length]))]
theorem hi_X8_empty_8 : ∀ w ∈ u_ws RX8 TX8 2, w ∈ wsX8_empty := fun _ h => List.mem_cons_of_mem _ (List.mem_append_right _ h)
def wp_X8_empty (v_length : Int32) (K : Int32 → Prop) : Prop := K (0 : Int32)
set_option maxHeartbeats 4000000 in
set_option maxRecDepth 100000 in
theorem c_X8_empty {l : Launch} {D : va_G} {cy : ClassId} {a_this : Nat} {w_bytes : Value} {v_length : Int32} {K : Int32 → Prop} : CtV l yX8_empty wsX8_empty { frames := 1, cells := 0, slots := 0, locals := 64 } 0 0 D cy [.ref a_this] (w_X8_empty cy a_this w_bytes v_length) (wp_X8_empty v_length K) (fun (u : Int32) => (w_X8_empty cy a_this w_bytes u)) (fun (u : Int32) => K u) := by
  refine CtV.mk (cc := cX8_empty) (nL := 1) (by decide) rfl (Nat.le_of_ble_eq_true rfl) ?_
  intro p e s m args below meth c A Q ha hr _ h ls hl hw
  have ha : am p s m args c cX8_empty 1 RX8 wsX8_empty D cy A := ha
  have hx := ha.1
  have hb := ha.2.1
  have hl : lv_has ls 1 [(0, .ref a_this)] := hl
  have h : K (0 : Int32) := h
  refine lv_aload_n hx hb dX8_empty_0 rfl (lv_at hl 0 rfl) ?_
  refine lv_iconst (v := (0 : Int32)) hx hb dX8_empty_1 (by decide) ?_
  refine g_put (ci := 8) (wn := (w_X8_empty cy a_this w_bytes (0 : Int32))) ha hw 0 1 rfl hi_X8_empty_8 tyX8_ok nmX8 (by decide) (List.mem_of_getElem? (i := 1) rfl) rfl rfl rfl rfl (Nat.le_of_ble_eq_true rfl) rfl dX8_empty_2 (fun H locs hw => ?_)
  exact hr _ ((0 : Int32)) _ _ _ dX8_empty_5 h hw
