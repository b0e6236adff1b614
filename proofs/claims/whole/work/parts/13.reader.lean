theorem hq_X2_reads : yX2_reads.cls = RX2 ∧ yX2_reads.cls ≠ "java/lang/invoke/MethodHandle" ∧ yX2_reads.cls ≠ "java/lang/invoke/VarHandle" ∧ (parseMethodDescriptor yX2_reads.desc).map (fun d => d.parameters.length) = some 1 := by decide +kernel
def w_X2_reads (cy : ClassId) (a_this a_tape a_tape_bytes : Nat) (w_parts : Value) (v_tape_bytes : IA) (v_tape_length : Int32) (v_at : Int32) : va_W := [(a_this, .inr (2, [.ref a_tape, w_parts, .int v_at])), (a_tape, .inr (8, [.ref a_tape_bytes, .int v_tape_length])), (a_tape_bytes, .inl (cy, 48, .inl v_tape_bytes))]
theorem hi_X2_reads_2 : ∀ w ∈ u_ws RX2 TX2 3, w ∈ wsX2_reads := fun _ h => List.mem_cons_of_mem _ (List.mem_append_left _ (List.mem_append_right _ h))
def wp_X2_reads (x1 : Int32) (v_tape_bytes : IA) (v_tape_length : Int32) (v_at : Int32) (K : Int32 → Int32 → Prop) : Prop := wp_X8_byteAt v_at v_tape_bytes v_tape_length (fun (r1 : Int32) => (r1 = x1 → K (1 : Int32) (v_at + (1 : Int32))) ∧ (¬ (r1 = x1) → K (0 : Int32) v_at))
set_option maxHeartbeats 4000000 in
set_option maxRecDepth 100000 in
theorem c_X2_reads {l : Launch} {D : va_G} {cy : ClassId} {a_this a_tape a_tape_bytes : Nat} {w_parts : Value} {v_tape_bytes : IA} {v_tape_length : Int32} {v_at : Int32} {x1 : Int32} {K : Int32 → Int32 → Prop} : CtI l yX2_reads wsX2_reads { frames := 2, cells := 0, slots := 0, locals := 149 } 0 0 D cy [.ref a_this, .int x1] (w_X2_reads cy a_this a_tape a_tape_bytes w_parts v_tape_bytes v_tape_length v_at) (wp_X2_reads x1 v_tape_bytes v_tape_length v_at K) (fun (u : Int32) => (w_X2_reads cy a_this a_tape a_tape_bytes w_parts v_tape_bytes v_tape_length u)) (fun (r : Int32) (u : Int32) => nz r ∧ K r u) := by
  refine CtI.mk (cc := cX2_reads) (nL := 2) (ty := .boolean) (by decide) rfl (Nat.le_of_ble_eq_true rfl) (fun r u h => h.1.nar) ?_
  intro p e s m args below meth c A Q ha hr _ h ls hl hw
  have ha : am p s m args c cX2_reads 2 RX2 wsX2_reads D cy A := ha
  have hx := ha.1
  have hb := ha.2.1
  have hl : lv_has ls 2 [(0, .ref a_this), (1, .int x1)] := hl
  have h : wp_X8_byteAt v_at v_tape_bytes v_tape_length (fun (r1 : Int32) => (r1 = x1 → K (1 : Int32) (v_at + (1 : Int32))) ∧ (¬ (r1 = x1) → K (0 : Int32) v_at)) := h
  refine lv_aload_n hx hb dX2_reads_0 rfl (lv_at hl 0 rfl) ?_
  refine g_get (ci := 2) ha hw 0 0 rfl hi_X2_reads_2 (by decide) (List.mem_of_getElem? (i := 1) rfl) rfl rfl dX2_reads_1 ?_
  refine lv_aload_n hx hb dX2_reads_4 rfl (lv_at hl 0 rfl) ?_
  refine g_get (ci := 2) ha hw 0 2 rfl hi_X2_reads_2 (by decide) (List.mem_of_getElem? (i := 2) rfl) rfl rfl dX2_reads_5 ?_
  refine g_cvi (rm := { frames := 1, cells := 0, slots := 0, locals := 64 }) (wn := (fun (u : Unit) => (w_X2_reads cy a_this a_tape a_tape_bytes w_parts v_tape_bytes v_tape_length v_at))) (As := [.int v_at]) ha hw hl.1 (c_X8_byteAt (cy := cy)) (cwV 1 ha.2.2.2.2.1 gX2_reads_X8_byteAt rfl rfl rfl hq_X8_byteAt ⟨Nat.le_of_ble_eq_true rfl, Nat.le_of_ble_eq_true rfl⟩) [1, 2] [0] [0, 1, 2] rfl rfl rfl rfl (by decide) rfl (fun _ => rfl) rfl rfl h rfl rfl (Nat.le_of_ble_eq_true rfl) dX2_reads_8 ⟨Nat.le_refl _, Nat.le_refl _⟩ (fun r1 u H locs h hw => ?_)
  have hw : wd D A s.heap (w_X2_reads cy a_this a_tape a_tape_bytes w_parts v_tape_bytes v_tape_length v_at) H locs := hw
  try dsimp only at h
  refine lv_iload_n hx hb dX2_reads_11 rfl (lv_at hl 1 rfl) ?_
  refine lv_icmp_eq (tgt := 17) hx hb dX2_reads_12 (by decide) (fun c2 => ?_) (fun c2 => ?_)
  · have h := h.1 c2
    refine lv_aload_n hx hb dX2_reads_17 rfl (lv_at hl 0 rfl) ?_
    refine lv_dup hx hb dX2_reads_18 rfl ?_
    refine g_get (ci := 2) ha hw 0 2 rfl hi_X2_reads_2 (by decide) (List.mem_of_getElem? (i := 2) rfl) rfl rfl dX2_reads_19 ?_
    refine lv_iconst (v := (1 : Int32)) hx hb dX2_reads_22 (by decide) ?_
    refine lv_iadd hx hb dX2_reads_23 ?_
    refine g_put (ci := 2) (wn := (w_X2_reads cy a_this a_tape a_tape_bytes w_parts v_tape_bytes v_tape_length (v_at + (1 : Int32)))) ha hw 0 2 rfl hi_X2_reads_2 tyX2_ok nmX2 (by decide) (List.mem_of_getElem? (i := 2) rfl) rfl rfl rfl rfl (Nat.le_of_ble_eq_true rfl) rfl dX2_reads_24 (fun H locs hw => ?_)
    refine lv_iconst (v := (1 : Int32)) hx hb dX2_reads_27 (by decide) ?_
    exact hr _ _ (v_at + (1 : Int32)) _ _ _ dX2_reads_28 ⟨nz1, h⟩ hw
  · have h := h.2 c2
    refine lv_iconst (v := (0 : Int32)) hx hb dX2_reads_15 (by decide) ?_
    exact hr _ _ (v_at) _ _ _ dX2_reads_16 ⟨nz0, h⟩ hw
theorem hq_X2_digitHere : yX2_digitHere.cls = RX2 ∧ yX2_digitHere.cls ≠ "java/lang/invoke/MethodHandle" ∧ yX2_digitHere.cls ≠ "java/lang/invoke/VarHandle" ∧ (parseMethodDescriptor yX2_digitHere.desc).map (fun d => d.parameters.length) = some 0 := by decide +kernel
def w_X2_digitHere (cy : ClassId) (a_this a_tape a_tape_bytes : Nat) (w_parts : Value) (v_tape_bytes : IA) (v_tape_length : Int32) (v_at : Int32) : va_W := [(a_this, .inr (2, [.ref a_tape, w_parts, .int v_at])), (a_tape, .inr (8, [.ref a_tape_bytes, .int v_tape_length])), (a_tape_bytes, .inl (cy, 48, .inl v_tape_bytes))]
theorem hi_X2_digitHere_2 : ∀ w ∈ u_ws RX2 TX2 3, w ∈ wsX2_digitHere := fun _ h => List.mem_cons_of_mem _ (List.mem_append_left _ (List.mem_append_right _ h))
def wp_X2_digitHere (v_tape_bytes : IA) (v_tape_length : Int32) (v_at : Int32) (K : Int32 → Prop) : Prop := wp_X8_byteAt v_at v_tape_bytes v_tape_length (fun (r1 : Int32) => (r1 < (48 : Int32) → K (-9 : Int32)) ∧ (¬ (r1 < (48 : Int32)) → ((57 : Int32) < r1 → K (-9 : Int32)) ∧ (¬ ((57 : Int32) < r1) → K (r1 - (48 : Int32)))))
set_option maxHeartbeats 4000000 in
set_option maxRecDepth 100000 in
theorem c_X2_digitHere {l : Launch} {D : va_G} {cy : ClassId} {a_this a_tape a_tape_bytes : Nat} {w_parts : Value} {v_tape_bytes : IA} {v_tape_length : Int32} {v_at : Int32} {K : Int32 → Prop} : CtI l yX2_digitHere wsX2_digitHere { frames := 2, cells := 0, slots := 0, locals := 149 } 0 0 D cy [.ref a_this] (w_X2_digitHere cy a_this a_tape a_tape_bytes w_parts v_tape_bytes v_tape_length v_at) (wp_X2_digitHere v_tape_bytes v_tape_length v_at K) (fun (u : Unit) => (w_X2_digitHere cy a_this a_tape a_tape_bytes w_parts v_tape_bytes v_tape_length v_at)) (fun (r : Int32) (u : Unit) => K r) := by
  refine CtI.mk (cc := cX2_digitHere) (nL := 2) (ty := .int) (by decide) rfl (Nat.le_of_ble_eq_true rfl) (fun r u h => rfl) ?_
  intro p e s m args below meth c A Q ha hr _ h ls hl hw
  have ha : am p s m args c cX2_digitHere 2 RX2 wsX2_digitHere D cy A := ha
  have hx := ha.1
  have hb := ha.2.1
  have hl : lv_has ls 2 [(0, .ref a_this)] := hl
  have h : wp_X8_byteAt v_at v_tape_bytes v_tape_length (fun (r1 : Int32) => (r1 < (48 : Int32) → K (-9 : Int32)) ∧ (¬ (r1 < (48 : Int32)) → ((57 : Int32) < r1 → K (-9 : Int32)) ∧ (¬ ((57 : Int32) < r1) → K (r1 - (48 : Int32))))) := h
  refine lv_aload_n hx hb dX2_digitHere_0 rfl (lv_at hl 0 rfl) ?_
  refine g_get (ci := 2) ha hw 0 0 rfl hi_X2_digitHere_2 (by decide) (List.mem_of_getElem? (i := 1) rfl) rfl rfl dX2_digitHere_1 ?_
  refine lv_aload_n hx hb dX2_digitHere_4 rfl (lv_at hl 0 rfl) ?_
  refine g_get (ci := 2) ha hw 0 2 rfl hi_X2_digitHere_2 (by decide) (List.mem_of_getElem? (i := 2) rfl) rfl rfl dX2_digitHere_5 ?_
  refine g_cvi (rm := { frames := 1, cells := 0, slots := 0, locals := 64 }) (wn := (fun (u : Unit) => (w_X2_digitHere cy a_this a_tape a_tape_bytes w_parts v_tape_bytes v_tape_length v_at))) (As := [.int v_at]) ha hw hl.1 (c_X8_byteAt (cy := cy)) (cwV 1 ha.2.2.2.2.1 gX2_digitHere_X8_byteAt rfl rfl rfl hq_X8_byteAt ⟨Nat.le_of_ble_eq_true rfl, Nat.le_of_ble_eq_true rfl⟩) [1, 2] [0] [0, 1, 2] rfl rfl rfl rfl (by decide) rfl (fun _ => rfl) rfl rfl h rfl rfl (Nat.le_of_ble_eq_true rfl) dX2_digitHere_8 ⟨Nat.le_refl _, Nat.le_refl _⟩ (fun r1 u H locs h hw => ?_)
  have hw : wd D A s.heap (w_X2_digitHere cy a_this a_tape a_tape_bytes w_parts v_tape_bytes v_tape_length v_at) H locs := hw
  try dsimp only at h
  refine lv_istore_n (lv' := [(1, .int r1), (0, .ref a_this)]) hx hb dX2_digitHere_11 rfl hl (by decide) rfl (fun ls hl => ?_)
  refine lv_iload_n hx hb dX2_digitHere_12 rfl (lv_at hl 0 rfl) ?_
  refine lv_bipush (v := (48 : Int32)) hx hb dX2_digitHere_13 (by decide) ?_
  refine lv_icmp_lt (tgt := 31) hx hb dX2_digitHere_15 (by decide) (fun c2 => ?_) (fun c2 => ?_)
  · have h := h.1 c2
    refine lv_bipush (v := (-9 : Int32)) hx hb dX2_digitHere_31 (by decide) ?_
    exact hr _ _ () _ _ _ dX2_digitHere_33 h hw
  · have h := h.2 c2
    refine lv_iload_n hx hb dX2_digitHere_18 rfl (lv_at hl 0 rfl) ?_
    refine lv_bipush (v := (57 : Int32)) hx hb dX2_digitHere_19 (by decide) ?_
    refine lv_icmp_gt (tgt := 31) hx hb dX2_digitHere_21 (by decide) (fun c3 => ?_) (fun c3 => ?_)
    · have h := h.1 c3
      refine lv_bipush (v := (-9 : Int32)) hx hb dX2_digitHere_31 (by decide) ?_
      exact hr _ _ () _ _ _ dX2_digitHere_33 h hw
    · have h := h.2 c3
      refine lv_iload_n hx hb dX2_digitHere_24 rfl (lv_at hl 0 rfl) ?_
      refine lv_bipush (v := (48 : Int32)) hx hb dX2_digitHere_25 (by decide) ?_
      refine lv_isub hx hb dX2_digitHere_27 ?_
      refine lv_goto (tgt := 33) hx hb dX2_digitHere_28 (by decide) ?_
      exact hr _ _ () _ _ _ dX2_digitHere_33 h hw
theorem hq_X2_readsDigit : yX2_readsDigit.cls = RX2 ∧ yX2_readsDigit.cls ≠ "java/lang/invoke/MethodHandle" ∧ yX2_readsDigit.cls ≠ "java/lang/invoke/VarHandle" ∧ (parseMethodDescriptor yX2_readsDigit.desc).map (fun d => d.parameters.length) = some 1 := by decide +kernel
def w_X2_readsDigit (cy : ClassId) (a_this a_tape a_tape_bytes a_parts : Nat) (v_tape_bytes : IA) (v_tape_length : Int32) (v_parts : IA) (v_at : Int32) : va_W := [(a_this, .inr (2, [.ref a_tape, .ref a_parts, .int v_at])), (a_tape, .inr (8, [.ref a_tape_bytes, .int v_tape_length])), (a_tape_bytes, .inl (cy, 48, .inl v_tape_bytes)), (a_parts, .inl (cy, 4, .inl v_parts))]
theorem hi_X2_readsDigit_2 : ∀ w ∈ u_ws RX2 TX2 3, w ∈ wsX2_readsDigit := fun _ h => List.mem_cons_of_mem _ (List.mem_append_left _ (List.mem_append_right _ h))
def wp_X2_readsDigit (x1 : Int32) (v_tape_bytes : IA) (v_tape_length : Int32) (v_parts : IA) (v_at : Int32) (K : Int32 → IA → Int32 → Prop) : Prop := wp_X2_digitHere v_tape_bytes v_tape_length v_at (fun (r1 : Int32) => (r1 = (-9 : Int32) → K (0 : Int32) v_parts v_at) ∧ (¬ (r1 = (-9 : Int32)) → vp_in x1 4 ∧ (K (1 : Int32) (upd v_parts x1.toNatClampNeg r1) (v_at + (1 : Int32)))))
set_option maxHeartbeats 4000000 in
set_option maxRecDepth 100000 in
theorem c_X2_readsDigit {l : Launch} {D : va_G} {cy : ClassId} {a_this a_tape a_tape_bytes a_parts : Nat} {v_tape_bytes : IA} {v_tape_length : Int32} {v_parts : IA} {v_at : Int32} {x1 : Int32} {K : Int32 → IA → Int32 → Prop} : CtI l yX2_readsDigit wsX2_readsDigit { frames := 3, cells := 0, slots := 0, locals := 234 } 0 0 D cy [.ref a_this, .int x1] (w_X2_readsDigit cy a_this a_tape a_tape_bytes a_parts v_tape_bytes v_tape_length v_parts v_at) (wp_X2_readsDigit x1 v_tape_bytes v_tape_length v_parts v_at K) (fun (u : IA × Int32) => (w_X2_readsDigit cy a_this a_tape a_tape_bytes a_parts v_tape_bytes v_tape_length u.1 u.2)) (fun (r : Int32) (u : IA × Int32) => nz r ∧ K r u.1 u.2) := by
  refine CtI.mk (cc := cX2_readsDigit) (nL := 3) (ty := .boolean) (by decide) rfl (Nat.le_of_ble_eq_true rfl) (fun r u h => h.1.nar) ?_
  intro p e s m args below meth c A Q ha hr _ h ls hl hw
  have ha : am p s m args c cX2_readsDigit 3 RX2 wsX2_readsDigit D cy A := ha
  have hx := ha.1
  have hb := ha.2.1
  have hl : lv_has ls 3 [(0, .ref a_this), (1, .int x1)] := hl
  have h : wp_X2_digitHere v_tape_bytes v_tape_length v_at (fun (r1 : Int32) => (r1 = (-9 : Int32) → K (0 : Int32) v_parts v_at) ∧ (¬ (r1 = (-9 : Int32)) → vp_in x1 4 ∧ (K (1 : Int32) (upd v_parts x1.toNatClampNeg r1) (v_at + (1 : Int32))))) := h
  refine lv_aload_n hx hb dX2_readsDigit_0 rfl (lv_at hl 0 rfl) ?_
  refine g_cvi (rm := { frames := 2, cells := 0, slots := 0, locals := 149 }) (wn := (fun (u : Unit) => (w_X2_readsDigit cy a_this a_tape a_tape_bytes a_parts v_tape_bytes v_tape_length v_parts v_at))) (As := []) ha hw hl.1 (c_X2_digitHere (cy := cy)) (cwV 0 ha.2.2.2.2.1 gX2_readsDigit_X2_digitHere rfl rfl rfl hq_X2_digitHere ⟨Nat.le_of_ble_eq_true rfl, Nat.le_of_ble_eq_true rfl⟩) [0, 1, 2] [3] [1, 2, 3, 0] rfl rfl rfl rfl (by decide) rfl (fun _ => rfl) rfl rfl h rfl rfl (Nat.le_of_ble_eq_true rfl) dX2_readsDigit_1 ⟨Nat.le_refl _, Nat.le_refl _⟩ (fun r1 u H locs h hw => ?_)
  have hw : wd D A s.heap (w_X2_readsDigit cy a_this a_tape a_tape_bytes a_parts v_tape_bytes v_tape_length v_parts v_at) H locs := hw
  try dsimp only at h
  refine lv_istore_n (lv' := [(2, .int r1), (0, .ref a_this), (1, .int x1)]) hx hb dX2_readsDigit_4 rfl hl (by decide) rfl (fun ls hl => ?_)
  refine lv_iload_n hx hb dX2_readsDigit_5 rfl (lv_at hl 0 rfl) ?_
  refine lv_bipush (v := (-9 : Int32)) hx hb dX2_readsDigit_6 (by decide) ?_
  refine lv_icmp_ne (tgt := 13) hx hb dX2_readsDigit_8 (by decide) (fun c2 => ?_) (fun c2 => ?_)
  · have h := h.2 c2
    refine lv_aload_n hx hb dX2_readsDigit_13 rfl (lv_at hl 1 rfl) ?_
    refine g_get (ci := 2) ha hw 0 1 rfl hi_X2_readsDigit_2 (by decide) (List.mem_of_getElem? (i := 1) rfl) rfl rfl dX2_readsDigit_14 ?_
    refine lv_iload_n hx hb dX2_readsDigit_17 rfl (lv_at hl 2 rfl) ?_
    refine lv_iload_n hx hb dX2_readsDigit_18 rfl (lv_at hl 0 rfl) ?_
    obtain ⟨z3, h⟩ := h
    refine g_ast (wn := (w_X2_readsDigit cy a_this a_tape a_tape_bytes a_parts v_tape_bytes v_tape_length (upd v_parts x1.toNatClampNeg r1) v_at)) ha hw 3 rfl z3 rfl dX2_readsDigit_19 (fun H locs hw => ?_)
    refine lv_aload_n hx hb dX2_readsDigit_20 rfl (lv_at hl 1 rfl) ?_
    refine lv_dup hx hb dX2_readsDigit_21 rfl ?_
    refine g_get (ci := 2) ha hw 0 2 rfl hi_X2_readsDigit_2 (by decide) (List.mem_of_getElem? (i := 2) rfl) rfl rfl dX2_readsDigit_22 ?_
    refine lv_iconst (v := (1 : Int32)) hx hb dX2_readsDigit_25 (by decide) ?_
    refine lv_iadd hx hb dX2_readsDigit_26 ?_
    refine g_put (ci := 2) (wn := (w_X2_readsDigit cy a_this a_tape a_tape_bytes a_parts v_tape_bytes v_tape_length (upd v_parts x1.toNatClampNeg r1) (v_at + (1 : Int32)))) ha hw 0 2 rfl hi_X2_readsDigit_2 tyX2_ok nmX2 (by decide) (List.mem_of_getElem? (i := 2) rfl) rfl rfl rfl rfl (Nat.le_of_ble_eq_true rfl) rfl dX2_readsDigit_27 (fun H locs hw => ?_)
    refine lv_iconst (v := (1 : Int32)) hx hb dX2_readsDigit_30 (by decide) ?_
    exact hr _ _ (upd v_parts x1.toNatClampNeg r1, v_at + (1 : Int32)) _ _ _ dX2_readsDigit_31 ⟨nz1, h⟩ hw
  · have h := h.1 c2
    refine lv_iconst (v := (0 : Int32)) hx hb dX2_readsDigit_11 (by decide) ?_
    exact hr _ _ (v_parts, v_at) _ _ _ dX2_readsDigit_12 ⟨nz0, h⟩ hw
theorem hq_X2_readsHour : yX2_readsHour.cls = RX2 ∧ yX2_readsHour.cls ≠ "java/lang/invoke/MethodHandle" ∧ yX2_readsHour.cls ≠ "java/lang/invoke/VarHandle" ∧ (parseMethodDescriptor yX2_readsHour.desc).map (fun d => d.parameters.length) = some 1 := by decide +kernel
def w_X2_readsHour (cy : ClassId) (a_this a_tape a_tape_bytes a_parts : Nat) (v_tape_bytes : IA) (v_tape_length : Int32) (v_parts : IA) (v_at : Int32) : va_W := [(a_this, .inr (2, [.ref a_tape, .ref a_parts, .int v_at])), (a_tape, .inr (8, [.ref a_tape_bytes, .int v_tape_length])), (a_tape_bytes, .inl (cy, 48, .inl v_tape_bytes)), (a_parts, .inl (cy, 4, .inl v_parts))]
theorem hi_X2_readsHour_2 : ∀ w ∈ u_ws RX2 TX2 3, w ∈ wsX2_readsHour := fun _ h => List.mem_cons_of_mem _ (List.mem_append_left _ (List.mem_append_right _ h))
def wp_X2_readsHour (x1 : Int32) (v_tape_bytes : IA) (v_tape_length : Int32) (v_parts : IA) (v_at : Int32) (K : Int32 → IA → Int32 → Prop) : Prop := wp_X2_readsDigit x1 v_tape_bytes v_tape_length v_parts v_at (fun (r1 : Int32) (v_parts_2 : IA) (v_at_3 : Int32) => (r1 = 0 → K (0 : Int32) v_parts_2 v_at_3) ∧ (¬ (r1 = 0) → wp_X2_digitHere v_tape_bytes v_tape_length v_at_3 (fun (r5 : Int32) => (r5 = (-9 : Int32) → K (1 : Int32) v_parts_2 v_at_3) ∧ (¬ (r5 = (-9 : Int32)) → vp_in x1 4 ∧ (K (1 : Int32) (upd v_parts_2 x1.toNatClampNeg (((v_parts_2 x1.toNatClampNeg) * (10 : Int32)) + r5)) (v_at_3 + (1 : Int32)))))))
set_option maxHeartbeats 4000000 in
set_option maxRecDepth 100000 in
theorem c_X2_readsHour {l : Launch} {D : va_G} {cy : ClassId} {a_this a_tape a_tape_bytes a_parts : Nat} {v_tape_bytes : IA} {v_tape_length : Int32} {v_parts : IA} {v_at : Int32} {x1 : Int32} {K : Int32 → IA → Int32 → Prop} : CtI l yX2_readsHour wsX2_readsHour { frames := 4, cells := 0, slots := 0, locals := 320 } 0 0 D cy [.ref a_this, .int x1] (w_X2_readsHour cy a_this a_tape a_tape_bytes a_parts v_tape_bytes v_tape_length v_parts v_at) (wp_X2_readsHour x1 v_tape_bytes v_tape_length v_parts v_at K) (fun (u : IA × Int32) => (w_X2_readsHour cy a_this a_tape a_tape_bytes a_parts v_tape_bytes v_tape_length u.1 u.2)) (fun (r : Int32) (u : IA × Int32) => nz r ∧ K r u.1 u.2) := by
  refine CtI.mk (cc := cX2_readsHour) (nL := 3) (ty := .boolean) (by decide) rfl (Nat.le_of_ble_eq_true rfl) (fun r u h => h.1.nar) ?_
  intro p e s m args below meth c A Q ha hr _ h ls hl hw
  have ha : am p s m args c cX2_readsHour 3 RX2 wsX2_readsHour D cy A := ha
  have hx := ha.1
  have hb := ha.2.1
  have hl : lv_has ls 3 [(0, .ref a_this), (1, .int x1)] := hl
  have h : wp_X2_readsDigit x1 v_tape_bytes v_tape_length v_parts v_at (fun (r1 : Int32) (v_parts_2 : IA) (v_at_3 : Int32) => (r1 = 0 → K (0 : Int32) v_parts_2 v_at_3) ∧ (¬ (r1 = 0) → wp_X2_digitHere v_tape_bytes v_tape_length v_at_3 (fun (r5 : Int32) => (r5 = (-9 : Int32) → K (1 : Int32) v_parts_2 v_at_3) ∧ (¬ (r5 = (-9 : Int32)) → vp_in x1 4 ∧ (K (1 : Int32) (upd v_parts_2 x1.toNatClampNeg (((v_parts_2 x1.toNatClampNeg) * (10 : Int32)) + r5)) (v_at_3 + (1 : Int32))))))) := h
  refine lv_aload_n hx hb dX2_readsHour_0 rfl (lv_at hl 0 rfl) ?_
  refine lv_iload_n hx hb dX2_readsHour_1 rfl (lv_at hl 1 rfl) ?_
  refine g_cvi (rm := { frames := 3, cells := 0, slots := 0, locals := 234 }) (wn := (fun (u : IA × Int32) => (w_X2_readsHour cy a_this a_tape a_tape_bytes a_parts v_tape_bytes v_tape_length u.1 u.2))) (As := [.int x1]) ha hw hl.1 (c_X2_readsDigit (cy := cy)) (cwV 1 ha.2.2.2.2.1 gX2_readsHour_X2_readsDigit rfl rfl rfl hq_X2_readsDigit ⟨Nat.le_of_ble_eq_true rfl, Nat.le_of_ble_eq_true rfl⟩) [0, 1, 2, 3] [] [0, 1, 2, 3] rfl rfl rfl rfl (by decide) rfl (fun _ => rfl) rfl rfl h rfl rfl (Nat.le_of_ble_eq_true rfl) dX2_readsHour_2 ⟨Nat.le_refl _, Nat.le_refl _⟩ (fun r1 u H locs h hw => ?_)
  obtain ⟨v_parts_2, v_at_3⟩ := u
  have hw : wd D A s.heap (w_X2_readsHour cy a_this a_tape a_tape_bytes a_parts v_tape_bytes v_tape_length v_parts_2 v_at_3) H locs := hw
  obtain ⟨zr1, h⟩ := h
  try dsimp only at h
  refine lv_if_ne (tgt := 10) hx hb dX2_readsHour_5 (by decide) (fun c4 => ?_) (fun c4 => ?_)
  · have h := h.2 c4
    refine lv_aload_n hx hb dX2_readsHour_10 rfl (lv_at hl 0 rfl) ?_
    refine g_cvi (rm := { frames := 2, cells := 0, slots := 0, locals := 149 }) (wn := (fun (u : Unit) => (w_X2_readsHour cy a_this a_tape a_tape_bytes a_parts v_tape_bytes v_tape_length v_parts_2 v_at_3))) (As := []) ha hw hl.1 (c_X2_digitHere (cy := cy)) (cwV 0 ha.2.2.2.2.1 gX2_readsHour_X2_digitHere rfl rfl rfl hq_X2_digitHere ⟨Nat.le_of_ble_eq_true rfl, Nat.le_of_ble_eq_true rfl⟩) [0, 1, 2] [3] [1, 2, 3, 0] rfl rfl rfl rfl (by decide) rfl (fun _ => rfl) rfl rfl h rfl rfl (Nat.le_of_ble_eq_true rfl) dX2_readsHour_11 ⟨Nat.le_refl _, Nat.le_refl _⟩ (fun r5 u H locs h hw => ?_)
    have hw : wd D A s.heap (w_X2_readsHour cy a_this a_tape a_tape_bytes a_parts v_tape_bytes v_tape_length v_parts_2 v_at_3) H locs := hw
    try dsimp only at h
    refine lv_istore_n (lv' := [(2, .int r5), (0, .ref a_this), (1, .int x1)]) hx hb dX2_readsHour_14 rfl hl (by decide) rfl (fun ls hl => ?_)
    refine lv_iload_n hx hb dX2_readsHour_15 rfl (lv_at hl 0 rfl) ?_
    refine lv_bipush (v := (-9 : Int32)) hx hb dX2_readsHour_16 (by decide) ?_
    refine lv_icmp_eq (tgt := 48) hx hb dX2_readsHour_18 (by decide) (fun c6 => ?_) (fun c6 => ?_)
    · have h := h.1 c6
      refine lv_iconst (v := (1 : Int32)) hx hb dX2_readsHour_48 (by decide) ?_
      exact hr _ _ (v_parts_2, v_at_3) _ _ _ dX2_readsHour_49 ⟨nz1, h⟩ hw
    · have h := h.2 c6
      refine lv_aload_n hx hb dX2_readsHour_21 rfl (lv_at hl 1 rfl) ?_
      refine g_get (ci := 2) ha hw 0 1 rfl hi_X2_readsHour_2 (by decide) (List.mem_of_getElem? (i := 1) rfl) rfl rfl dX2_readsHour_22 ?_
      refine lv_iload_n hx hb dX2_readsHour_25 rfl (lv_at hl 2 rfl) ?_
      refine lv_aload_n hx hb dX2_readsHour_26 rfl (lv_at hl 1 rfl) ?_
      refine g_get (ci := 2) ha hw 0 1 rfl hi_X2_readsHour_2 (by decide) (List.mem_of_getElem? (i := 1) rfl) rfl rfl dX2_readsHour_27 ?_
      refine lv_iload_n hx hb dX2_readsHour_30 rfl (lv_at hl 2 rfl) ?_
      obtain ⟨z7, h⟩ := h
      refine g_ald ha hw 3 rfl z7 dX2_readsHour_31 ?_
      refine lv_bipush (v := (10 : Int32)) hx hb dX2_readsHour_32 (by decide) ?_
      refine lv_imul hx hb dX2_readsHour_34 ?_
      refine lv_iload_n hx hb dX2_readsHour_35 rfl (lv_at hl 0 rfl) ?_
      refine lv_iadd hx hb dX2_readsHour_36 ?_
      refine g_ast (wn := (w_X2_readsHour cy a_this a_tape a_tape_bytes a_parts v_tape_bytes v_tape_length (upd v_parts_2 x1.toNatClampNeg (((v_parts_2 x1.toNatClampNeg) * (10 : Int32)) + r5)) v_at_3)) ha hw 3 rfl z7 rfl dX2_readsHour_37 (fun H locs hw => ?_)
      refine lv_aload_n hx hb dX2_readsHour_38 rfl (lv_at hl 1 rfl) ?_
      refine lv_dup hx hb dX2_readsHour_39 rfl ?_
      refine g_get (ci := 2) ha hw 0 2 rfl hi_X2_readsHour_2 (by decide) (List.mem_of_getElem? (i := 2) rfl) rfl rfl dX2_readsHour_40 ?_
      refine lv_iconst (v := (1 : Int32)) hx hb dX2_readsHour_43 (by decide) ?_
      refine lv_iadd hx hb dX2_readsHour_44 ?_
      refine g_put (ci := 2) (wn := (w_X2_readsHour cy a_this a_tape a_tape_bytes a_parts v_tape_bytes v_tape_length (upd v_parts_2 x1.toNatClampNeg (((v_parts_2 x1.toNatClampNeg) * (10 : Int32)) + r5)) (v_at_3 + (1 : Int32)))) ha hw 0 2 rfl hi_X2_readsHour_2 tyX2_ok nmX2 (by decide) (List.mem_of_getElem? (i := 2) rfl) rfl rfl rfl rfl (Nat.le_of_ble_eq_true rfl) rfl dX2_readsHour_45 (fun H locs hw => ?_)
      refine lv_iconst (v := (1 : Int32)) hx hb dX2_readsHour_48 (by decide) ?_
      exact hr _ _ (upd v_parts_2 x1.toNatClampNeg (((v_parts_2 x1.toNatClampNeg) * (10 : Int32)) + r5), v_at_3 + (1 : Int32)) _ _ _ dX2_readsHour_49 ⟨nz1, h⟩ hw
  · have h := h.1 c4
    refine lv_iconst (v := (0 : Int32)) hx hb dX2_readsHour_8 (by decide) ?_
    exact hr _ _ (v_parts_2, v_at_3) _ _ _ dX2_readsHour_9 ⟨nz0, h⟩ hw
theorem hq_X2_readStatement : yX2_readStatement.cls = RX2 ∧ yX2_readStatement.cls ≠ "java/lang/invoke/MethodHandle" ∧ yX2_readStatement.cls ≠ "java/lang/invoke/VarHandle" ∧ (parseMethodDescriptor yX2_readStatement.desc).map (fun d => d.parameters.length) = some 0 := by decide +kernel
def w_X2_readStatement (cy : ClassId) (a_this a_tape a_tape_bytes a_parts : Nat) (v_tape_bytes : IA) (v_tape_length : Int32) (v_parts : IA) (v_at : Int32) : va_W := [(a_this, .inr (2, [.ref a_tape, .ref a_parts, .int v_at])), (a_tape, .inr (8, [.ref a_tape_bytes, .int v_tape_length])), (a_tape_bytes, .inl (cy, 48, .inl v_tape_bytes)), (a_parts, .inl (cy, 4, .inl v_parts))]
def wp_X2_readStatement (v_tape_bytes : IA) (v_tape_length : Int32) (v_parts : IA) (v_at : Int32) (K : Int32 → IA → Int32 → Prop) : Prop := wp_X2_reads (114 : Int32) v_tape_bytes v_tape_length v_at (fun (r1 : Int32) (v_at_2 : Int32) => (r1 = 0 → wp_X2_reads (100 : Int32) v_tape_bytes v_tape_length v_at_2 (fun (r4 : Int32) (v_at_5 : Int32) => (r4 = 0 → wp_X2_reads (110 : Int32) v_tape_bytes v_tape_length v_at_5 (fun (r7 : Int32) (v_at_8 : Int32) => (r7 = 0 → K (0 : Int32) v_parts v_at_8) ∧ (¬ (r7 = 0) → wp_X2_readsDigit (0 : Int32) v_tape_bytes v_tape_length v_parts v_at_8 (fun (r10 : Int32) (v_parts_11 : IA) (v_at_12 : Int32) => (r10 = 0 → K (0 : Int32) v_parts_11 v_at_12) ∧ (¬ (r10 = 0) → wp_X2_readsDigit (1 : Int32) v_tape_bytes v_tape_length v_parts_11 v_at_12 (fun (r14 : Int32) (v_parts_15 : IA) (v_at_16 : Int32) => (r14 = 0 → K (0 : Int32) v_parts_15 v_at_16) ∧ (¬ (r14 = 0) → wp_X2_reads (64 : Int32) v_tape_bytes v_tape_length v_at_16 (fun (r18 : Int32) (v_at_19 : Int32) => (r18 = 0 → K (0 : Int32) v_parts_15 v_at_19) ∧ (¬ (r18 = 0) → wp_X2_readsHour (2 : Int32) v_tape_bytes v_tape_length v_parts_15 v_at_19 (fun (r21 : Int32) (v_parts_22 : IA) (v_at_23 : Int32) => (r21 = 0 → K (0 : Int32) v_parts_22 v_at_23) ∧ (¬ (r21 = 0) → wp_X2_reads (45 : Int32) v_tape_bytes v_tape_length v_at_23 (fun (r25 : Int32) (v_at_26 : Int32) => (r25 = 0 → K (0 : Int32) v_parts_22 v_at_26) ∧ (¬ (r25 = 0) → wp_X2_readsHour (3 : Int32) v_tape_bytes v_tape_length v_parts_22 v_at_26 (fun (r28 : Int32) (v_parts_29 : IA) (v_at_30 : Int32) => (r28 = 0 → K (0 : Int32) v_parts_29 v_at_30) ∧ (¬ (r28 = 0) → wp_X2_reads (59 : Int32) v_tape_bytes v_tape_length v_at_30 (fun (r32 : Int32) (v_at_33 : Int32) => (r32 = 0 → K (0 : Int32) v_parts_29 v_at_33) ∧ (¬ (r32 = 0) → K (1 : Int32) v_parts_29 v_at_33))))))))))))))))) ∧ (¬ (r4 = 0) → wp_X2_readsDigit (0 : Int32) v_tape_bytes v_tape_length v_parts v_at_5 (fun (r35 : Int32) (v_parts_36 : IA) (v_at_37 : Int32) => (r35 = 0 → K (0 : Int32) v_parts_36 v_at_37) ∧ (¬ (r35 = 0) → wp_X2_readsDigit (1 : Int32) v_tape_bytes v_tape_length v_parts_36 v_at_37 (fun (r39 : Int32) (v_parts_40 : IA) (v_at_41 : Int32) => (r39 = 0 → K (0 : Int32) v_parts_40 v_at_41) ∧ (¬ (r39 = 0) → wp_X2_reads (59 : Int32) v_tape_bytes v_tape_length v_at_41 (fun (r43 : Int32) (v_at_44 : Int32) => (r43 = 0 → K (0 : Int32) v_parts_40 v_at_44) ∧ (¬ (r43 = 0) → K (1 : Int32) v_parts_40 v_at_44))))))))) ∧ (¬ (r1 = 0) → wp_X2_readsDigit (0 : Int32) v_tape_bytes v_tape_length v_parts v_at_2 (fun (r46 : Int32) (v_parts_47 : IA) (v_at_48 : Int32) => (r46 = 0 → K (0 : Int32) v_parts_47 v_at_48) ∧ (¬ (r46 = 0) → wp_X2_reads (42 : Int32) v_tape_bytes v_tape_length v_at_48 (fun (r50 : Int32) (v_at_51 : Int32) => (r50 = 0 → K (0 : Int32) v_parts_47 v_at_51) ∧ (¬ (r50 = 0) → wp_X2_readsDigit (1 : Int32) v_tape_bytes v_tape_length v_parts_47 v_at_51 (fun (r53 : Int32) (v_parts_54 : IA) (v_at_55 : Int32) => (r53 = 0 → K (0 : Int32) v_parts_54 v_at_55) ∧ (¬ (r53 = 0) → wp_X2_reads (59 : Int32) v_tape_bytes v_tape_length v_at_55 (fun (r57 : Int32) (v_at_58 : Int32) => (r57 = 0 → K (0 : Int32) v_parts_54 v_at_58) ∧ (¬ (r57 = 0) → K (1 : Int32) v_parts_54 v_at_58))))))))))
set_option maxHeartbeats 4000000 in
set_option maxRecDepth 100000 in
theorem c_X2_readStatement {l : Launch} {D : va_G} {cy : ClassId} {a_this a_tape a_tape_bytes a_parts : Nat} {v_tape_bytes : IA} {v_tape_length : Int32} {v_parts : IA} {v_at : Int32} {K : Int32 → IA → Int32 → Prop} : CtI l yX2_readStatement wsX2_readStatement { frames := 5, cells := 0, slots := 0, locals := 406 } 0 0 D cy [.ref a_this] (w_X2_readStatement cy a_this a_tape a_tape_bytes a_parts v_tape_bytes v_tape_length v_parts v_at) (wp_X2_readStatement v_tape_bytes v_tape_length v_parts v_at K) (fun (u : IA × Int32) => (w_X2_readStatement cy a_this a_tape a_tape_bytes a_parts v_tape_bytes v_tape_length u.1 u.2)) (fun (r : Int32) (u : IA × Int32) => nz r ∧ K r u.1 u.2) := by
  refine CtI.mk (cc := cX2_readStatement) (nL := 1) (ty := .boolean) (by decide) rfl (Nat.le_of_ble_eq_true rfl) (fun r u h => h.1.nar) ?_
  intro p e s m args below meth c A Q ha hr _ h ls hl hw
  have ha : am p s m args c cX2_readStatement 1 RX2 wsX2_readStatement D cy A := ha
  have hx := ha.1
  have hb := ha.2.1
  have hl : lv_has ls 1 [(0, .ref a_this)] := hl
  have h : wp_X2_reads (114 : Int32) v_tape_bytes v_tape_length v_at (fun (r1 : Int32) (v_at_2 : Int32) => (r1 = 0 → wp_X2_reads (100 : Int32) v_tape_bytes v_tape_length v_at_2 (fun (r4 : Int32) (v_at_5 : Int32) => (r4 = 0 → wp_X2_reads (110 : Int32) v_tape_bytes v_tape_length v_at_5 (fun (r7 : Int32) (v_at_8 : Int32) => (r7 = 0 → K (0 : Int32) v_parts v_at_8) ∧ (¬ (r7 = 0) → wp_X2_readsDigit (0 : Int32) v_tape_bytes v_tape_length v_parts v_at_8 (fun (r10 : Int32) (v_parts_11 : IA) (v_at_12 : Int32) => (r10 = 0 → K (0 : Int32) v_parts_11 v_at_12) ∧ (¬ (r10 = 0) → wp_X2_readsDigit (1 : Int32) v_tape_bytes v_tape_length v_parts_11 v_at_12 (fun (r14 : Int32) (v_parts_15 : IA) (v_at_16 : Int32) => (r14 = 0 → K (0 : Int32) v_parts_15 v_at_16) ∧ (¬ (r14 = 0) → wp_X2_reads (64 : Int32) v_tape_bytes v_tape_length v_at_16 (fun (r18 : Int32) (v_at_19 : Int32) => (r18 = 0 → K (0 : Int32) v_parts_15 v_at_19) ∧ (¬ (r18 = 0) → wp_X2_readsHour (2 : Int32) v_tape_bytes v_tape_length v_parts_15 v_at_19 (fun (r21 : Int32) (v_parts_22 : IA) (v_at_23 : Int32) => (r21 = 0 → K (0 : Int32) v_parts_22 v_at_23) ∧ (¬ (r21 = 0) → wp_X2_reads (45 : Int32) v_tape_bytes v_tape_length v_at_23 (fun (r25 : Int32) (v_at_26 : Int32) => (r25 = 0 → K (0 : Int32) v_parts_22 v_at_26) ∧ (¬ (r25 = 0) → wp_X2_readsHour (3 : Int32) v_tape_bytes v_tape_length v_parts_22 v_at_26 (fun (r28 : Int32) (v_parts_29 : IA) (v_at_30 : Int32) => (r28 = 0 → K (0 : Int32) v_parts_29 v_at_30) ∧ (¬ (r28 = 0) → wp_X2_reads (59 : Int32) v_tape_bytes v_tape_length v_at_30 (fun (r32 : Int32) (v_at_33 : Int32) => (r32 = 0 → K (0 : Int32) v_parts_29 v_at_33) ∧ (¬ (r32 = 0) → K (1 : Int32) v_parts_29 v_at_33))))))))))))))))) ∧ (¬ (r4 = 0) → wp_X2_readsDigit (0 : Int32) v_tape_bytes v_tape_length v_parts v_at_5 (fun (r35 : Int32) (v_parts_36 : IA) (v_at_37 : Int32) => (r35 = 0 → K (0 : Int32) v_parts_36 v_at_37) ∧ (¬ (r35 = 0) → wp_X2_readsDigit (1 : Int32) v_tape_bytes v_tape_length v_parts_36 v_at_37 (fun (r39 : Int32) (v_parts_40 : IA) (v_at_41 : Int32) => (r39 = 0 → K (0 : Int32) v_parts_40 v_at_41) ∧ (¬ (r39 = 0) → wp_X2_reads (59 : Int32) v_tape_bytes v_tape_length v_at_41 (fun (r43 : Int32) (v_at_44 : Int32) => (r43 = 0 → K (0 : Int32) v_parts_40 v_at_44) ∧ (¬ (r43 = 0) → K (1 : Int32) v_parts_40 v_at_44))))))))) ∧ (¬ (r1 = 0) → wp_X2_readsDigit (0 : Int32) v_tape_bytes v_tape_length v_parts v_at_2 (fun (r46 : Int32) (v_parts_47 : IA) (v_at_48 : Int32) => (r46 = 0 → K (0 : Int32) v_parts_47 v_at_48) ∧ (¬ (r46 = 0) → wp_X2_reads (42 : Int32) v_tape_bytes v_tape_length v_at_48 (fun (r50 : Int32) (v_at_51 : Int32) => (r50 = 0 → K (0 : Int32) v_parts_47 v_at_51) ∧ (¬ (r50 = 0) → wp_X2_readsDigit (1 : Int32) v_tape_bytes v_tape_length v_parts_47 v_at_51 (fun (r53 : Int32) (v_parts_54 : IA) (v_at_55 : Int32) => (r53 = 0 → K (0 : Int32) v_parts_54 v_at_55) ∧ (¬ (r53 = 0) → wp_X2_reads (59 : Int32) v_tape_bytes v_tape_length v_at_55 (fun (r57 : Int32) (v_at_58 : Int32) => (r57 = 0 → K (0 : Int32) v_parts_54 v_at_58) ∧ (¬ (r57 = 0) → K (1 : Int32) v_parts_54 v_at_58)))))))))) := h
  refine lv_aload_n hx hb dX2_readStatement_0 rfl (lv_at hl 0 rfl) ?_
  refine lv_bipush (v := (114 : Int32)) hx hb dX2_readStatement_1 (by decide) ?_
  refine g_cvi (rm := { frames := 2, cells := 0, slots := 0, locals := 149 }) (wn := (fun (u : Int32) => (w_X2_readStatement cy a_this a_tape a_tape_bytes a_parts v_tape_bytes v_tape_length v_parts u))) (As := [.int (114 : Int32)]) ha hw hl.1 (c_X2_reads (cy := cy)) (cwV 1 ha.2.2.2.2.1 gX2_readStatement_X2_reads rfl rfl rfl hq_X2_reads ⟨Nat.le_of_ble_eq_true rfl, Nat.le_of_ble_eq_true rfl⟩) [0, 1, 2] [3] [1, 2, 3, 0] rfl rfl rfl rfl (by decide) rfl (fun _ => rfl) rfl rfl h rfl rfl (Nat.le_of_ble_eq_true rfl) dX2_readStatement_3 ⟨Nat.le_refl _, Nat.le_refl _⟩ (fun r1 u H locs h hw => ?_)
  obtain ⟨v_at_2, rfl⟩ : ∃ z, z = u := ⟨_, rfl⟩
  have hw : wd D A s.heap (w_X2_readStatement cy a_this a_tape a_tape_bytes a_parts v_tape_bytes v_tape_length v_parts v_at_2) H locs := hw
  obtain ⟨zr1, h⟩ := h
  try dsimp only at h
  refine lv_if_eq (tgt := 49) hx hb dX2_readStatement_6 (by decide) (fun c3 => ?_) (fun c3 => ?_)
  · have h := h.1 c3
    refine lv_aload_n hx hb dX2_readStatement_49 rfl (lv_at hl 0 rfl) ?_
    refine lv_bipush (v := (100 : Int32)) hx hb dX2_readStatement_50 (by decide) ?_
    refine g_cvi (rm := { frames := 2, cells := 0, slots := 0, locals := 149 }) (wn := (fun (u : Int32) => (w_X2_readStatement cy a_this a_tape a_tape_bytes a_parts v_tape_bytes v_tape_length v_parts u))) (As := [.int (100 : Int32)]) ha hw hl.1 (c_X2_reads (cy := cy)) (cwV 1 ha.2.2.2.2.1 gX2_readStatement_X2_reads rfl rfl rfl hq_X2_reads ⟨Nat.le_of_ble_eq_true rfl, Nat.le_of_ble_eq_true rfl⟩) [0, 1, 2] [3] [1, 2, 3, 0] rfl rfl rfl rfl (by decide) rfl (fun _ => rfl) rfl rfl h rfl rfl (Nat.le_of_ble_eq_true rfl) dX2_readStatement_52 ⟨Nat.le_refl _, Nat.le_refl _⟩ (fun r4 u H locs h hw => ?_)
    obtain ⟨v_at_5, rfl⟩ : ∃ z, z = u := ⟨_, rfl⟩
    have hw : wd D A s.heap (w_X2_readStatement cy a_this a_tape a_tape_bytes a_parts v_tape_bytes v_tape_length v_parts v_at_5) H locs := hw
    obtain ⟨zr4, h⟩ := h
    try dsimp only at h
    refine lv_if_eq (tgt := 89) hx hb dX2_readStatement_55 (by decide) (fun c6 => ?_) (fun c6 => ?_)
    · have h := h.1 c6
      refine lv_aload_n hx hb dX2_readStatement_89 rfl (lv_at hl 0 rfl) ?_
      refine lv_bipush (v := (110 : Int32)) hx hb dX2_readStatement_90 (by decide) ?_
      refine g_cvi (rm := { frames := 2, cells := 0, slots := 0, locals := 149 }) (wn := (fun (u : Int32) => (w_X2_readStatement cy a_this a_tape a_tape_bytes a_parts v_tape_bytes v_tape_length v_parts u))) (As := [.int (110 : Int32)]) ha hw hl.1 (c_X2_reads (cy := cy)) (cwV 1 ha.2.2.2.2.1 gX2_readStatement_X2_reads rfl rfl rfl hq_X2_reads ⟨Nat.le_of_ble_eq_true rfl, Nat.le_of_ble_eq_true rfl⟩) [0, 1, 2] [3] [1, 2, 3, 0] rfl rfl rfl rfl (by decide) rfl (fun _ => rfl) rfl rfl h rfl rfl (Nat.le_of_ble_eq_true rfl) dX2_readStatement_92 ⟨Nat.le_refl _, Nat.le_refl _⟩ (fun r7 u H locs h hw => ?_)
      obtain ⟨v_at_8, rfl⟩ : ∃ z, z = u := ⟨_, rfl⟩
      have hw : wd D A s.heap (w_X2_readStatement cy a_this a_tape a_tape_bytes a_parts v_tape_bytes v_tape_length v_parts v_at_8) H locs := hw
      obtain ⟨zr7, h⟩ := h
      try dsimp only at h
      refine lv_if_eq (tgt := 161) hx hb dX2_readStatement_95 (by decide) (fun c9 => ?_) (fun c9 => ?_)
      · have h := h.1 c9
        refine lv_iconst (v := (0 : Int32)) hx hb dX2_readStatement_161 (by decide) ?_
        exact hr _ _ (v_parts, v_at_8) _ _ _ dX2_readStatement_162 ⟨nz0, h⟩ hw
      · have h := h.2 c9
        refine lv_aload_n hx hb dX2_readStatement_98 rfl (lv_at hl 0 rfl) ?_
        refine lv_iconst (v := (0 : Int32)) hx hb dX2_readStatement_99 (by decide) ?_
        refine g_cvi (rm := { frames := 3, cells := 0, slots := 0, locals := 234 }) (wn := (fun (u : IA × Int32) => (w_X2_readStatement cy a_this a_tape a_tape_bytes a_parts v_tape_bytes v_tape_length u.1 u.2))) (As := [.int (0 : Int32)]) ha hw hl.1 (c_X2_readsDigit (cy := cy)) (cwV 1 ha.2.2.2.2.1 gX2_readStatement_X2_readsDigit rfl rfl rfl hq_X2_readsDigit ⟨Nat.le_of_ble_eq_true rfl, Nat.le_of_ble_eq_true rfl⟩) [0, 1, 2, 3] [] [0, 1, 2, 3] rfl rfl rfl rfl (by decide) rfl (fun _ => rfl) rfl rfl h rfl rfl (Nat.le_of_ble_eq_true rfl) dX2_readStatement_100 ⟨Nat.le_refl _, Nat.le_refl _⟩ (fun r10 u H locs h hw => ?_)
        obtain ⟨v_parts_11, v_at_12⟩ := u
        have hw : wd D A s.heap (w_X2_readStatement cy a_this a_tape a_tape_bytes a_parts v_tape_bytes v_tape_length v_parts_11 v_at_12) H locs := hw
        obtain ⟨zr10, h⟩ := h
        try dsimp only at h
        refine lv_if_eq (tgt := 161) hx hb dX2_readStatement_103 (by decide) (fun c13 => ?_) (fun c13 => ?_)
        · have h := h.1 c13
          refine lv_iconst (v := (0 : Int32)) hx hb dX2_readStatement_161 (by decide) ?_
          exact hr _ _ (v_parts_11, v_at_12) _ _ _ dX2_readStatement_162 ⟨nz0, h⟩ hw
        · have h := h.2 c13
          refine lv_aload_n hx hb dX2_readStatement_106 rfl (lv_at hl 0 rfl) ?_
          refine lv_iconst (v := (1 : Int32)) hx hb dX2_readStatement_107 (by decide) ?_
          refine g_cvi (rm := { frames := 3, cells := 0, slots := 0, locals := 234 }) (wn := (fun (u : IA × Int32) => (w_X2_readStatement cy a_this a_tape a_tape_bytes a_parts v_tape_bytes v_tape_length u.1 u.2))) (As := [.int (1 : Int32)]) ha hw hl.1 (c_X2_readsDigit (cy := cy)) (cwV 1 ha.2.2.2.2.1 gX2_readStatement_X2_readsDigit rfl rfl rfl hq_X2_readsDigit ⟨Nat.le_of_ble_eq_true rfl, Nat.le_of_ble_eq_true rfl⟩) [0, 1, 2, 3] [] [0, 1, 2, 3] rfl rfl rfl rfl (by decide) rfl (fun _ => rfl) rfl rfl h rfl rfl (Nat.le_of_ble_eq_true rfl) dX2_readStatement_108 ⟨Nat.le_refl _, Nat.le_refl _⟩ (fun r14 u H locs h hw => ?_)
          obtain ⟨v_parts_15, v_at_16⟩ := u
          have hw : wd D A s.heap (w_X2_readStatement cy a_this a_tape a_tape_bytes a_parts v_tape_bytes v_tape_length v_parts_15 v_at_16) H locs := hw
          obtain ⟨zr14, h⟩ := h
          try dsimp only at h
          refine lv_if_eq (tgt := 161) hx hb dX2_readStatement_111 (by decide) (fun c17 => ?_) (fun c17 => ?_)
          · have h := h.1 c17
            refine lv_iconst (v := (0 : Int32)) hx hb dX2_readStatement_161 (by decide) ?_
            exact hr _ _ (v_parts_15, v_at_16) _ _ _ dX2_readStatement_162 ⟨nz0, h⟩ hw
          · have h := h.2 c17
            refine lv_aload_n hx hb dX2_readStatement_114 rfl (lv_at hl 0 rfl) ?_
            refine lv_bipush (v := (64 : Int32)) hx hb dX2_readStatement_115 (by decide) ?_
            refine g_cvi (rm := { frames := 2, cells := 0, slots := 0, locals := 149 }) (wn := (fun (u : Int32) => (w_X2_readStatement cy a_this a_tape a_tape_bytes a_parts v_tape_bytes v_tape_length v_parts_15 u))) (As := [.int (64 : Int32)]) ha hw hl.1 (c_X2_reads (cy := cy)) (cwV 1 ha.2.2.2.2.1 gX2_readStatement_X2_reads rfl rfl rfl hq_X2_reads ⟨Nat.le_of_ble_eq_true rfl, Nat.le_of_ble_eq_true rfl⟩) [0, 1, 2] [3] [1, 2, 3, 0] rfl rfl rfl rfl (by decide) rfl (fun _ => rfl) rfl rfl h rfl rfl (Nat.le_of_ble_eq_true rfl) dX2_readStatement_117 ⟨Nat.le_refl _, Nat.le_refl _⟩ (fun r18 u H locs h hw => ?_)
            obtain ⟨v_at_19, rfl⟩ : ∃ z, z = u := ⟨_, rfl⟩
            have hw : wd D A s.heap (w_X2_readStatement cy a_this a_tape a_tape_bytes a_parts v_tape_bytes v_tape_length v_parts_15 v_at_19) H locs := hw
            obtain ⟨zr18, h⟩ := h
            try dsimp only at h
            refine lv_if_eq (tgt := 161) hx hb dX2_readStatement_120 (by decide) (fun c20 => ?_) (fun c20 => ?_)
            · have h := h.1 c20
              refine lv_iconst (v := (0 : Int32)) hx hb dX2_readStatement_161 (by decide) ?_
              exact hr _ _ (v_parts_15, v_at_19) _ _ _ dX2_readStatement_162 ⟨nz0, h⟩ hw
            · have h := h.2 c20
              refine lv_aload_n hx hb dX2_readStatement_123 rfl (lv_at hl 0 rfl) ?_
              refine lv_iconst (v := (2 : Int32)) hx hb dX2_readStatement_124 (by decide) ?_
              refine g_cvi (rm := { frames := 4, cells := 0, slots := 0, locals := 320 }) (wn := (fun (u : IA × Int32) => (w_X2_readStatement cy a_this a_tape a_tape_bytes a_parts v_tape_bytes v_tape_length u.1 u.2))) (As := [.int (2 : Int32)]) ha hw hl.1 (c_X2_readsHour (cy := cy)) (cwV 1 ha.2.2.2.2.1 gX2_readStatement_X2_readsHour rfl rfl rfl hq_X2_readsHour ⟨Nat.le_of_ble_eq_true rfl, Nat.le_of_ble_eq_true rfl⟩) [0, 1, 2, 3] [] [0, 1, 2, 3] rfl rfl rfl rfl (by decide) rfl (fun _ => rfl) rfl rfl h rfl rfl (Nat.le_of_ble_eq_true rfl) dX2_readStatement_125 ⟨Nat.le_refl _, Nat.le_refl _⟩ (fun r21 u H locs h hw => ?_)
              obtain ⟨v_parts_22, v_at_23⟩ := u
              have hw : wd D A s.heap (w_X2_readStatement cy a_this a_tape a_tape_bytes a_parts v_tape_bytes v_tape_length v_parts_22 v_at_23) H locs := hw
              obtain ⟨zr21, h⟩ := h
              try dsimp only at h
              refine lv_if_eq (tgt := 161) hx hb dX2_readStatement_128 (by decide) (fun c24 => ?_) (fun c24 => ?_)
              · have h := h.1 c24
                refine lv_iconst (v := (0 : Int32)) hx hb dX2_readStatement_161 (by decide) ?_
                exact hr _ _ (v_parts_22, v_at_23) _ _ _ dX2_readStatement_162 ⟨nz0, h⟩ hw
              · have h := h.2 c24
                refine lv_aload_n hx hb dX2_readStatement_131 rfl (lv_at hl 0 rfl) ?_
                refine lv_bipush (v := (45 : Int32)) hx hb dX2_readStatement_132 (by decide) ?_
                refine g_cvi (rm := { frames := 2, cells := 0, slots := 0, locals := 149 }) (wn := (fun (u : Int32) => (w_X2_readStatement cy a_this a_tape a_tape_bytes a_parts v_tape_bytes v_tape_length v_parts_22 u))) (As := [.int (45 : Int32)]) ha hw hl.1 (c_X2_reads (cy := cy)) (cwV 1 ha.2.2.2.2.1 gX2_readStatement_X2_reads rfl rfl rfl hq_X2_reads ⟨Nat.le_of_ble_eq_true rfl, Nat.le_of_ble_eq_true rfl⟩) [0, 1, 2] [3] [1, 2, 3, 0] rfl rfl rfl rfl (by decide) rfl (fun _ => rfl) rfl rfl h rfl rfl (Nat.le_of_ble_eq_true rfl) dX2_readStatement_134 ⟨Nat.le_refl _, Nat.le_refl _⟩ (fun r25 u H locs h hw => ?_)
                obtain ⟨v_at_26, rfl⟩ : ∃ z, z = u := ⟨_, rfl⟩
                have hw : wd D A s.heap (w_X2_readStatement cy a_this a_tape a_tape_bytes a_parts v_tape_bytes v_tape_length v_parts_22 v_at_26) H locs := hw
                obtain ⟨zr25, h⟩ := h
                try dsimp only at h
                refine lv_if_eq (tgt := 161) hx hb dX2_readStatement_137 (by decide) (fun c27 => ?_) (fun c27 => ?_)
                · have h := h.1 c27
                  refine lv_iconst (v := (0 : Int32)) hx hb dX2_readStatement_161 (by decide) ?_
                  exact hr _ _ (v_parts_22, v_at_26) _ _ _ dX2_readStatement_162 ⟨nz0, h⟩ hw
                · have h := h.2 c27
                  refine lv_aload_n hx hb dX2_readStatement_140 rfl (lv_at hl 0 rfl) ?_
                  refine lv_iconst (v := (3 : Int32)) hx hb dX2_readStatement_141 (by decide) ?_
                  refine g_cvi (rm := { frames := 4, cells := 0, slots := 0, locals := 320 }) (wn := (fun (u : IA × Int32) => (w_X2_readStatement cy a_this a_tape a_tape_bytes a_parts v_tape_bytes v_tape_length u.1 u.2))) (As := [.int (3 : Int32)]) ha hw hl.1 (c_X2_readsHour (cy := cy)) (cwV 1 ha.2.2.2.2.1 gX2_readStatement_X2_readsHour rfl rfl rfl hq_X2_readsHour ⟨Nat.le_of_ble_eq_true rfl, Nat.le_of_ble_eq_true rfl⟩) [0, 1, 2, 3] [] [0, 1, 2, 3] rfl rfl rfl rfl (by decide) rfl (fun _ => rfl) rfl rfl h rfl rfl (Nat.le_of_ble_eq_true rfl) dX2_readStatement_142 ⟨Nat.le_refl _, Nat.le_refl _⟩ (fun r28 u H locs h hw => ?_)
                  obtain ⟨v_parts_29, v_at_30⟩ := u
                  have hw : wd D A s.heap (w_X2_readStatement cy a_this a_tape a_tape_bytes a_parts v_tape_bytes v_tape_length v_parts_29 v_at_30) H locs := hw
                  obtain ⟨zr28, h⟩ := h
                  try dsimp only at h
                  refine lv_if_eq (tgt := 161) hx hb dX2_readStatement_145 (by decide) (fun c31 => ?_) (fun c31 => ?_)
                  · have h := h.1 c31
                    refine lv_iconst (v := (0 : Int32)) hx hb dX2_readStatement_161 (by decide) ?_
                    exact hr _ _ (v_parts_29, v_at_30) _ _ _ dX2_readStatement_162 ⟨nz0, h⟩ hw
                  · have h := h.2 c31
                    refine lv_aload_n hx hb dX2_readStatement_148 rfl (lv_at hl 0 rfl) ?_
                    refine lv_bipush (v := (59 : Int32)) hx hb dX2_readStatement_149 (by decide) ?_
                    refine g_cvi (rm := { frames := 2, cells := 0, slots := 0, locals := 149 }) (wn := (fun (u : Int32) => (w_X2_readStatement cy a_this a_tape a_tape_bytes a_parts v_tape_bytes v_tape_length v_parts_29 u))) (As := [.int (59 : Int32)]) ha hw hl.1 (c_X2_reads (cy := cy)) (cwV 1 ha.2.2.2.2.1 gX2_readStatement_X2_reads rfl rfl rfl hq_X2_reads ⟨Nat.le_of_ble_eq_true rfl, Nat.le_of_ble_eq_true rfl⟩) [0, 1, 2] [3] [1, 2, 3, 0] rfl rfl rfl rfl (by decide) rfl (fun _ => rfl) rfl rfl h rfl rfl (Nat.le_of_ble_eq_true rfl) dX2_readStatement_151 ⟨Nat.le_refl _, Nat.le_refl _⟩ (fun r32 u H locs h hw => ?_)
                    obtain ⟨v_at_33, rfl⟩ : ∃ z, z = u := ⟨_, rfl⟩
                    have hw : wd D A s.heap (w_X2_readStatement cy a_this a_tape a_tape_bytes a_parts v_tape_bytes v_tape_length v_parts_29 v_at_33) H locs := hw
                    obtain ⟨zr32, h⟩ := h
                    try dsimp only at h
                    refine lv_if_eq (tgt := 161) hx hb dX2_readStatement_154 (by decide) (fun c34 => ?_) (fun c34 => ?_)
                    · have h := h.1 c34
                      refine lv_iconst (v := (0 : Int32)) hx hb dX2_readStatement_161 (by decide) ?_
                      exact hr _ _ (v_parts_29, v_at_33) _ _ _ dX2_readStatement_162 ⟨nz0, h⟩ hw
                    · have h := h.2 c34
                      refine lv_iconst (v := (1 : Int32)) hx hb dX2_readStatement_157 (by decide) ?_
                      refine lv_goto (tgt := 162) hx hb dX2_readStatement_158 (by decide) ?_
                      exact hr _ _ (v_parts_29, v_at_33) _ _ _ dX2_readStatement_162 ⟨nz1, h⟩ hw
    · have h := h.2 c6
      refine lv_aload_n hx hb dX2_readStatement_58 rfl (lv_at hl 0 rfl) ?_
      refine lv_iconst (v := (0 : Int32)) hx hb dX2_readStatement_59 (by decide) ?_
      refine g_cvi (rm := { frames := 3, cells := 0, slots := 0, locals := 234 }) (wn := (fun (u : IA × Int32) => (w_X2_readStatement cy a_this a_tape a_tape_bytes a_parts v_tape_bytes v_tape_length u.1 u.2))) (As := [.int (0 : Int32)]) ha hw hl.1 (c_X2_readsDigit (cy := cy)) (cwV 1 ha.2.2.2.2.1 gX2_readStatement_X2_readsDigit rfl rfl rfl hq_X2_readsDigit ⟨Nat.le_of_ble_eq_true rfl, Nat.le_of_ble_eq_true rfl⟩) [0, 1, 2, 3] [] [0, 1, 2, 3] rfl rfl rfl rfl (by decide) rfl (fun _ => rfl) rfl rfl h rfl rfl (Nat.le_of_ble_eq_true rfl) dX2_readStatement_60 ⟨Nat.le_refl _, Nat.le_refl _⟩ (fun r35 u H locs h hw => ?_)
      obtain ⟨v_parts_36, v_at_37⟩ := u
      have hw : wd D A s.heap (w_X2_readStatement cy a_this a_tape a_tape_bytes a_parts v_tape_bytes v_tape_length v_parts_36 v_at_37) H locs := hw
      obtain ⟨zr35, h⟩ := h
      try dsimp only at h
      refine lv_if_eq (tgt := 87) hx hb dX2_readStatement_63 (by decide) (fun c38 => ?_) (fun c38 => ?_)
      · have h := h.1 c38
        refine lv_iconst (v := (0 : Int32)) hx hb dX2_readStatement_87 (by decide) ?_
        exact hr _ _ (v_parts_36, v_at_37) _ _ _ dX2_readStatement_88 ⟨nz0, h⟩ hw
      · have h := h.2 c38
        refine lv_aload_n hx hb dX2_readStatement_66 rfl (lv_at hl 0 rfl) ?_
        refine lv_iconst (v := (1 : Int32)) hx hb dX2_readStatement_67 (by decide) ?_
        refine g_cvi (rm := { frames := 3, cells := 0, slots := 0, locals := 234 }) (wn := (fun (u : IA × Int32) => (w_X2_readStatement cy a_this a_tape a_tape_bytes a_parts v_tape_bytes v_tape_length u.1 u.2))) (As := [.int (1 : Int32)]) ha hw hl.1 (c_X2_readsDigit (cy := cy)) (cwV 1 ha.2.2.2.2.1 gX2_readStatement_X2_readsDigit rfl rfl rfl hq_X2_readsDigit ⟨Nat.le_of_ble_eq_true rfl, Nat.le_of_ble_eq_true rfl⟩) [0, 1, 2, 3] [] [0, 1, 2, 3] rfl rfl rfl rfl (by decide) rfl (fun _ => rfl) rfl rfl h rfl rfl (Nat.le_of_ble_eq_true rfl) dX2_readStatement_68 ⟨Nat.le_refl _, Nat.le_refl _⟩ (fun r39 u H locs h hw => ?_)
        obtain ⟨v_parts_40, v_at_41⟩ := u
        have hw : wd D A s.heap (w_X2_readStatement cy a_this a_tape a_tape_bytes a_parts v_tape_bytes v_tape_length v_parts_40 v_at_41) H locs := hw
        obtain ⟨zr39, h⟩ := h
        try dsimp only at h
        refine lv_if_eq (tgt := 87) hx hb dX2_readStatement_71 (by decide) (fun c42 => ?_) (fun c42 => ?_)
        · have h := h.1 c42
          refine lv_iconst (v := (0 : Int32)) hx hb dX2_readStatement_87 (by decide) ?_
          exact hr _ _ (v_parts_40, v_at_41) _ _ _ dX2_readStatement_88 ⟨nz0, h⟩ hw
        · have h := h.2 c42
          refine lv_aload_n hx hb dX2_readStatement_74 rfl (lv_at hl 0 rfl) ?_
          refine lv_bipush (v := (59 : Int32)) hx hb dX2_readStatement_75 (by decide) ?_
          refine g_cvi (rm := { frames := 2, cells := 0, slots := 0, locals := 149 }) (wn := (fun (u : Int32) => (w_X2_readStatement cy a_this a_tape a_tape_bytes a_parts v_tape_bytes v_tape_length v_parts_40 u))) (As := [.int (59 : Int32)]) ha hw hl.1 (c_X2_reads (cy := cy)) (cwV 1 ha.2.2.2.2.1 gX2_readStatement_X2_reads rfl rfl rfl hq_X2_reads ⟨Nat.le_of_ble_eq_true rfl, Nat.le_of_ble_eq_true rfl⟩) [0, 1, 2] [3] [1, 2, 3, 0] rfl rfl rfl rfl (by decide) rfl (fun _ => rfl) rfl rfl h rfl rfl (Nat.le_of_ble_eq_true rfl) dX2_readStatement_77 ⟨Nat.le_refl _, Nat.le_refl _⟩ (fun r43 u H locs h hw => ?_)
          obtain ⟨v_at_44, rfl⟩ : ∃ z, z = u := ⟨_, rfl⟩
          have hw : wd D A s.heap (w_X2_readStatement cy a_this a_tape a_tape_bytes a_parts v_tape_bytes v_tape_length v_parts_40 v_at_44) H locs := hw
          obtain ⟨zr43, h⟩ := h
          try dsimp only at h
          refine lv_if_eq (tgt := 87) hx hb dX2_readStatement_80 (by decide) (fun c45 => ?_) (fun c45 => ?_)
          · have h := h.1 c45
            refine lv_iconst (v := (0 : Int32)) hx hb dX2_readStatement_87 (by decide) ?_
            exact hr _ _ (v_parts_40, v_at_44) _ _ _ dX2_readStatement_88 ⟨nz0, h⟩ hw
          · have h := h.2 c45
            refine lv_iconst (v := (1 : Int32)) hx hb dX2_readStatement_83 (by decide) ?_
            refine lv_goto (tgt := 88) hx hb dX2_readStatement_84 (by decide) ?_
            exact hr _ _ (v_parts_40, v_at_44) _ _ _ dX2_readStatement_88 ⟨nz1, h⟩ hw
  · have h := h.2 c3
    refine lv_aload_n hx hb dX2_readStatement_9 rfl (lv_at hl 0 rfl) ?_
    refine lv_iconst (v := (0 : Int32)) hx hb dX2_readStatement_10 (by decide) ?_
    refine g_cvi (rm := { frames := 3, cells := 0, slots := 0, locals := 234 }) (wn := (fun (u : IA × Int32) => (w_X2_readStatement cy a_this a_tape a_tape_bytes a_parts v_tape_bytes v_tape_length u.1 u.2))) (As := [.int (0 : Int32)]) ha hw hl.1 (c_X2_readsDigit (cy := cy)) (cwV 1 ha.2.2.2.2.1 gX2_readStatement_X2_readsDigit rfl rfl rfl hq_X2_readsDigit ⟨Nat.le_of_ble_eq_true rfl, Nat.le_of_ble_eq_true rfl⟩) [0, 1, 2, 3] [] [0, 1, 2, 3] rfl rfl rfl rfl (by decide) rfl (fun _ => rfl) rfl rfl h rfl rfl (Nat.le_of_ble_eq_true rfl) dX2_readStatement_11 ⟨Nat.le_refl _, Nat.le_refl _⟩ (fun r46 u H locs h hw => ?_)
    obtain ⟨v_parts_47, v_at_48⟩ := u
    have hw : wd D A s.heap (w_X2_readStatement cy a_this a_tape a_tape_bytes a_parts v_tape_bytes v_tape_length v_parts_47 v_at_48) H locs := hw
    obtain ⟨zr46, h⟩ := h
    try dsimp only at h
    refine lv_if_eq (tgt := 47) hx hb dX2_readStatement_14 (by decide) (fun c49 => ?_) (fun c49 => ?_)
    · have h := h.1 c49
      refine lv_iconst (v := (0 : Int32)) hx hb dX2_readStatement_47 (by decide) ?_
      exact hr _ _ (v_parts_47, v_at_48) _ _ _ dX2_readStatement_48 ⟨nz0, h⟩ hw
    · have h := h.2 c49
      refine lv_aload_n hx hb dX2_readStatement_17 rfl (lv_at hl 0 rfl) ?_
      refine lv_bipush (v := (42 : Int32)) hx hb dX2_readStatement_18 (by decide) ?_
      refine g_cvi (rm := { frames := 2, cells := 0, slots := 0, locals := 149 }) (wn := (fun (u : Int32) => (w_X2_readStatement cy a_this a_tape a_tape_bytes a_parts v_tape_bytes v_tape_length v_parts_47 u))) (As := [.int (42 : Int32)]) ha hw hl.1 (c_X2_reads (cy := cy)) (cwV 1 ha.2.2.2.2.1 gX2_readStatement_X2_reads rfl rfl rfl hq_X2_reads ⟨Nat.le_of_ble_eq_true rfl, Nat.le_of_ble_eq_true rfl⟩) [0, 1, 2] [3] [1, 2, 3, 0] rfl rfl rfl rfl (by decide) rfl (fun _ => rfl) rfl rfl h rfl rfl (Nat.le_of_ble_eq_true rfl) dX2_readStatement_20 ⟨Nat.le_refl _, Nat.le_refl _⟩ (fun r50 u H locs h hw => ?_)
      obtain ⟨v_at_51, rfl⟩ : ∃ z, z = u := ⟨_, rfl⟩
      have hw : wd D A s.heap (w_X2_readStatement cy a_this a_tape a_tape_bytes a_parts v_tape_bytes v_tape_length v_parts_47 v_at_51) H locs := hw
      obtain ⟨zr50, h⟩ := h
      try dsimp only at h
      refine lv_if_eq (tgt := 47) hx hb dX2_readStatement_23 (by decide) (fun c52 => ?_) (fun c52 => ?_)
      · have h := h.1 c52
        refine lv_iconst (v := (0 : Int32)) hx hb dX2_readStatement_47 (by decide) ?_
        exact hr _ _ (v_parts_47, v_at_51) _ _ _ dX2_readStatement_48 ⟨nz0, h⟩ hw
      · have h := h.2 c52
        refine lv_aload_n hx hb dX2_readStatement_26 rfl (lv_at hl 0 rfl) ?_
        refine lv_iconst (v := (1 : Int32)) hx hb dX2_readStatement_27 (by decide) ?_
        refine g_cvi (rm := { frames := 3, cells := 0, slots := 0, locals := 234 }) (wn := (fun (u : IA × Int32) => (w_X2_readStatement cy a_this a_tape a_tape_bytes a_parts v_tape_bytes v_tape_length u.1 u.2))) (As := [.int (1 : Int32)]) ha hw hl.1 (c_X2_readsDigit (cy := cy)) (cwV 1 ha.2.2.2.2.1 gX2_readStatement_X2_readsDigit rfl rfl rfl hq_X2_readsDigit ⟨Nat.le_of_ble_eq_true rfl, Nat.le_of_ble_eq_true rfl⟩) [0, 1, 2, 3] [] [0, 1, 2, 3] rfl rfl rfl rfl (by decide) rfl (fun _ => rfl) rfl rfl h rfl rfl (Nat.le_of_ble_eq_true rfl) dX2_readStatement_28 ⟨Nat.le_refl _, Nat.le_refl _⟩ (fun r53 u H locs h hw => ?_)
        obtain ⟨v_parts_54, v_at_55⟩ := u
        have hw : wd D A s.heap (w_X2_readStatement cy a_this a_tape a_tape_bytes a_parts v_tape_bytes v_tape_length v_parts_54 v_at_55) H locs := hw
        obtain ⟨zr53, h⟩ := h
        try dsimp only at h
        refine lv_if_eq (tgt := 47) hx hb dX2_readStatement_31 (by decide) (fun c56 => ?_) (fun c56 => ?_)
        · have h := h.1 c56
          refine lv_iconst (v := (0 : Int32)) hx hb dX2_readStatement_47 (by decide) ?_
          exact hr _ _ (v_parts_54, v_at_55) _ _ _ dX2_readStatement_48 ⟨nz0, h⟩ hw
        · have h := h.2 c56
          refine lv_aload_n hx hb dX2_readStatement_34 rfl (lv_at hl 0 rfl) ?_
          refine lv_bipush (v := (59 : Int32)) hx hb dX2_readStatement_35 (by decide) ?_
          refine g_cvi (rm := { frames := 2, cells := 0, slots := 0, locals := 149 }) (wn := (fun (u : Int32) => (w_X2_readStatement cy a_this a_tape a_tape_bytes a_parts v_tape_bytes v_tape_length v_parts_54 u))) (As := [.int (59 : Int32)]) ha hw hl.1 (c_X2_reads (cy := cy)) (cwV 1 ha.2.2.2.2.1 gX2_readStatement_X2_reads rfl rfl rfl hq_X2_reads ⟨Nat.le_of_ble_eq_true rfl, Nat.le_of_ble_eq_true rfl⟩) [0, 1, 2] [3] [1, 2, 3, 0] rfl rfl rfl rfl (by decide) rfl (fun _ => rfl) rfl rfl h rfl rfl (Nat.le_of_ble_eq_true rfl) dX2_readStatement_37 ⟨Nat.le_refl _, Nat.le_refl _⟩ (fun r57 u H locs h hw => ?_)
          obtain ⟨v_at_58, rfl⟩ : ∃ z, z = u := ⟨_, rfl⟩
          have hw : wd D A s.heap (w_X2_readStatement cy a_this a_tape a_tape_bytes a_parts v_tape_bytes v_tape_length v_parts_54 v_at_58) H locs := hw
          obtain ⟨zr57, h⟩ := h
          try dsimp only at h
          refine lv_if_eq (tgt := 47) hx hb dX2_readStatement_40 (by decide) (fun c59 => ?_) (fun c59 => ?_)
          · have h := h.1 c59
            refine lv_iconst (v := (0 : Int32)) hx hb dX2_readStatement_47 (by decide) ?_
            exact hr _ _ (v_parts_54, v_at_58) _ _ _ dX2_readStatement_48 ⟨nz0, h⟩ hw
          · have h := h.2 c59
            refine lv_iconst (v := (1 : Int32)) hx hb dX2_readStatement_43 (by decide) ?_
            refine lv_goto (tgt := 48) hx hb dX2_readStatement_44 (by decide) ?_
            exact hr _ _ (v_parts_54, v_at_58) _ _ _ dX2_readStatement_48 ⟨nz1, h⟩ hw
theorem hq_X2_firstStrayByte : yX2_firstStrayByte.cls = RX2 ∧ yX2_firstStrayByte.cls ≠ "java/lang/invoke/MethodHandle" ∧ yX2_firstStrayByte.cls ≠ "java/lang/invoke/VarHandle" ∧ (parseMethodDescriptor yX2_firstStrayByte.desc).map (fun d => d.parameters.length) = some 0 := by decide +kernel
def w_X2_firstStrayByte (cy : ClassId) (a_this a_tape a_tape_bytes a_parts : Nat) (v_tape_bytes : IA) (v_tape_length : Int32) (v_parts : IA) (v_at : Int32) : va_W := [(a_this, .inr (2, [.ref a_tape, .ref a_parts, .int v_at])), (a_tape, .inr (8, [.ref a_tape_bytes, .int v_tape_length])), (a_tape_bytes, .inl (cy, 48, .inl v_tape_bytes)), (a_parts, .inl (cy, 4, .inl v_parts))]
theorem hi_X2_firstStrayByte_2 : ∀ w ∈ u_ws RX2 TX2 3, w ∈ wsX2_firstStrayByte := fun _ h => List.mem_cons_of_mem _ (List.mem_append_left _ (List.mem_append_right _ h))
def wp_X2_firstStrayByte_7 (v_tape_bytes : IA) (v_tape_length : Int32) (E45 : Int32 → IA → Int32 → Prop) (K : Int32 → IA → Int32 → Prop) : Nat → Int32 → IA → Int32 → Prop
  | 0, _, _, _ => False
  | n + 1, x1, v_parts, v_at => ((48 : Int32) ≤ x1 → E45 x1 v_parts v_at) ∧ (¬ ((48 : Int32) ≤ x1) → wp_X8_size v_tape_length (fun (r2 : Int32) => (r2 ≤ v_at → E45 x1 v_parts v_at) ∧ (¬ (r2 ≤ v_at) → wp_X2_readStatement v_tape_bytes v_tape_length v_parts v_at (fun (r4 : Int32) (v_parts_5 : IA) (v_at_6 : Int32) => (r4 = 0 → K v_at_6 v_parts_5 v_at_6) ∧ (¬ (r4 = 0) → wp_X2_firstStrayByte_7 v_tape_bytes v_tape_length E45 K n (x1 + (1 : Int32)) v_parts_5 v_at_6)))))
set_option maxHeartbeats 4000000 in
set_option maxRecDepth 100000 in
theorem pl_X2_firstStrayByte_7 {p : Program} {l : Launch} {e : Env} {s : State} {m : MethodId} {args : Array Value} {below : List Frame} {meth : Method} {c : Code} {A : Nat → Prop} {Q : State → Prop} {D : va_G} {cy : ClassId} {a_this a_tape a_tape_bytes a_parts : Nat} {v_tape_bytes : IA} {v_tape_length : Int32} {K : Int32 → IA → Int32 → Prop} {E45 : Int32 → IA → Int32 → Prop} (ha : am p s m args c cX2_firstStrayByte 2 RX2 wsX2_firstStrayByte D cy A) (hr : rtI p l e { frames := 6, cells := 0, slots := 0, locals := 490 } s m args below meth c 0 0 Q cX2_firstStrayByte D A (fun (u : IA × Int32) => (w_X2_firstStrayByte cy a_this a_tape a_tape_bytes a_parts v_tape_bytes v_tape_length u.1 u.2)) (fun (r : Int32) (u : IA × Int32) => K r u.1 u.2)) (hE45 : ∀ (x1' : Int32) (v_parts' : IA) (v_at' : Int32) (H : Heap) (locs : List Loc) (ls : Array Slot), E45 x1' v_parts' v_at' → wd D A s.heap (w_X2_firstStrayByte cy a_this a_tape a_tape_bytes a_parts v_tape_bytes v_tape_length v_parts' v_at') H locs → lv_has ls 2 [(0, .ref a_this), (1, .int x1')] → W p l e { frames := 6, cells := 0, slots := 0, locals := 490 } s m args below meth c H locs 0 0 Q (F0 m 45 ls [])) : ∀ (n : Nat) (x1 : Int32) (v_parts : IA) (v_at : Int32) (H : Heap) (locs : List Loc) (ls : Array Slot), wp_X2_firstStrayByte_7 v_tape_bytes v_tape_length E45 K n x1 v_parts v_at → wd D A s.heap (w_X2_firstStrayByte cy a_this a_tape a_tape_bytes a_parts v_tape_bytes v_tape_length v_parts v_at) H locs → lv_has ls 2 [(0, .ref a_this), (1, .int x1)] → W p l e { frames := 6, cells := 0, slots := 0, locals := 490 } s m args below meth c H locs 0 0 Q (F0 m 7 ls []) := by
  have hx := ha.1
  have hb := ha.2.1
  intro n
  induction n with
  | zero => exact fun _ _ _ _ _ _ h _ _ => False.elim h
  | succ n ih =>
    intro x1 v_parts v_at H locs ls h hw hl
    have h : ((48 : Int32) ≤ x1 → E45 x1 v_parts v_at) ∧ (¬ ((48 : Int32) ≤ x1) → wp_X8_size v_tape_length (fun (r2 : Int32) => (r2 ≤ v_at → E45 x1 v_parts v_at) ∧ (¬ (r2 ≤ v_at) → wp_X2_readStatement v_tape_bytes v_tape_length v_parts v_at (fun (r4 : Int32) (v_parts_5 : IA) (v_at_6 : Int32) => (r4 = 0 → K v_at_6 v_parts_5 v_at_6) ∧ (¬ (r4 = 0) → wp_X2_firstStrayByte_7 v_tape_bytes v_tape_length E45 K n (x1 + (1 : Int32)) v_parts_5 v_at_6))))) := h
    refine lv_iload_n hx hb dX2_firstStrayByte_7 rfl (lv_at hl 1 rfl) ?_
    refine lv_bipush (v := (48 : Int32)) hx hb dX2_firstStrayByte_8 (by decide) ?_
    refine lv_icmp_ge (tgt := 45) hx hb dX2_firstStrayByte_10 (by decide) (fun c1 => ?_) (fun c1 => ?_)
    · have h := h.1 c1
      exact hE45 _ _ _ _ _ _ h hw (lv_sub hl [0, 1] rfl)
    · have h := h.2 c1
      refine lv_aload_n hx hb dX2_firstStrayByte_13 rfl (lv_at hl 0 rfl) ?_
      refine g_get (ci := 2) ha hw 0 2 rfl hi_X2_firstStrayByte_2 (by decide) (List.mem_of_getElem? (i := 1) rfl) rfl rfl dX2_firstStrayByte_14 ?_
      refine lv_aload_n hx hb dX2_firstStrayByte_17 rfl (lv_at hl 0 rfl) ?_
      refine g_get (ci := 2) ha hw 0 0 rfl hi_X2_firstStrayByte_2 (by decide) (List.mem_of_getElem? (i := 2) rfl) rfl rfl dX2_firstStrayByte_18 ?_
      refine g_cvi (rm := { frames := 1, cells := 0, slots := 0, locals := 64 }) (wn := (fun (u : Unit) => (w_X2_firstStrayByte cy a_this a_tape a_tape_bytes a_parts v_tape_bytes v_tape_length v_parts v_at))) (As := []) ha hw hl.1 (c_X8_size (cy := cy)) (cwV 0 ha.2.2.2.2.1 gX2_firstStrayByte_X8_size rfl rfl rfl hq_X8_size ⟨Nat.le_of_ble_eq_true rfl, Nat.le_of_ble_eq_true rfl⟩) [1] [0, 2, 3] [0, 3, 1, 2] rfl rfl rfl rfl (by decide) rfl (fun _ => rfl) rfl rfl h rfl rfl (Nat.le_of_ble_eq_true rfl) dX2_firstStrayByte_21 ⟨Nat.le_refl _, Nat.le_refl _⟩ (fun r2 u H locs h hw => ?_)
      have hw : wd D A s.heap (w_X2_firstStrayByte cy a_this a_tape a_tape_bytes a_parts v_tape_bytes v_tape_length v_parts v_at) H locs := hw
      try dsimp only at h
      refine lv_icmp_ge (tgt := 45) hx hb dX2_firstStrayByte_24 (by decide) (fun c3 => ?_) (fun c3 => ?_)
      · have h := h.1 c3
        exact hE45 _ _ _ _ _ _ h hw (lv_sub hl [0, 1] rfl)
      · have h := h.2 c3
        refine lv_aload_n hx hb dX2_firstStrayByte_27 rfl (lv_at hl 0 rfl) ?_
        refine g_cvi (rm := { frames := 5, cells := 0, slots := 0, locals := 406 }) (wn := (fun (u : IA × Int32) => (w_X2_firstStrayByte cy a_this a_tape a_tape_bytes a_parts v_tape_bytes v_tape_length u.1 u.2))) (As := []) ha hw hl.1 (c_X2_readStatement (cy := cy)) (cwV 0 ha.2.2.2.2.1 gX2_firstStrayByte_X2_readStatement rfl rfl rfl hq_X2_readStatement ⟨Nat.le_of_ble_eq_true rfl, Nat.le_of_ble_eq_true rfl⟩) [0, 1, 2, 3] [] [0, 1, 2, 3] rfl rfl rfl rfl (by decide) rfl (fun _ => rfl) rfl rfl h rfl rfl (Nat.le_of_ble_eq_true rfl) dX2_firstStrayByte_28 ⟨Nat.le_refl _, Nat.le_refl _⟩ (fun r4 u H locs h hw => ?_)
        obtain ⟨v_parts_5, v_at_6⟩ := u
        have hw : wd D A s.heap (w_X2_firstStrayByte cy a_this a_tape a_tape_bytes a_parts v_tape_bytes v_tape_length v_parts_5 v_at_6) H locs := hw
        obtain ⟨zr4, h⟩ := h
        try dsimp only at h
        refine lv_if_ne (tgt := 39) hx hb dX2_firstStrayByte_31 (by decide) (fun c7 => ?_) (fun c7 => ?_)
        · have h := h.2 c7
          refine lv_iinc (v := x1 + (1 : Int32)) (lv' := [(1, .int (x1 + (1 : Int32))), (0, .ref a_this)]) hx hb dX2_firstStrayByte_39 hl (k := 1) rfl rfl (by decide) rfl (fun ls hl => ?_)
          refine lv_goto (tgt := 7) hx hb dX2_firstStrayByte_42 (by decide) ?_
          exact ih _ _ _ _ _ _ h hw (lv_sub hl [1, 0] rfl)
        · have h := h.1 c7
          refine lv_aload_n hx hb dX2_firstStrayByte_34 rfl (lv_at hl 0 rfl) ?_
          refine g_get (ci := 2) ha hw 0 2 rfl hi_X2_firstStrayByte_2 (by decide) (List.mem_of_getElem? (i := 1) rfl) rfl rfl dX2_firstStrayByte_35 ?_
          exact hr _ _ (v_parts_5, v_at_6) _ _ _ dX2_firstStrayByte_38 h hw
def wp_X2_firstStrayByte_45 (x1 : Int32) (v_parts : IA) (v_at : Int32) (K : Int32 → IA → Int32 → Prop) : Prop := (x1 = 0 → K v_at v_parts v_at) ∧ (¬ (x1 = 0) → K (-9 : Int32) v_parts v_at)
set_option maxHeartbeats 4000000 in
set_option maxRecDepth 100000 in
theorem pl_X2_firstStrayByte_45 {p : Program} {l : Launch} {e : Env} {s : State} {m : MethodId} {args : Array Value} {below : List Frame} {meth : Method} {c : Code} {A : Nat → Prop} {Q : State → Prop} {D : va_G} {cy : ClassId} {a_this a_tape a_tape_bytes a_parts : Nat} {v_tape_bytes : IA} {v_tape_length : Int32} {v_parts : IA} {v_at : Int32} {x1 : Int32} {K : Int32 → IA → Int32 → Prop} (ha : am p s m args c cX2_firstStrayByte 2 RX2 wsX2_firstStrayByte D cy A) (hr : rtI p l e { frames := 6, cells := 0, slots := 0, locals := 490 } s m args below meth c 0 0 Q cX2_firstStrayByte D A (fun (u : IA × Int32) => (w_X2_firstStrayByte cy a_this a_tape a_tape_bytes a_parts v_tape_bytes v_tape_length u.1 u.2)) (fun (r : Int32) (u : IA × Int32) => K r u.1 u.2)) {H : Heap} {locs : List Loc} {ls : Array Slot} : wp_X2_firstStrayByte_45 x1 v_parts v_at K → wd D A s.heap (w_X2_firstStrayByte cy a_this a_tape a_tape_bytes a_parts v_tape_bytes v_tape_length v_parts v_at) H locs → lv_has ls 2 [(0, .ref a_this), (1, .int x1)] → W p l e { frames := 6, cells := 0, slots := 0, locals := 490 } s m args below meth c H locs 0 0 Q (F0 m 45 ls []) := by
  have hx := ha.1
  have hb := ha.2.1
  intro h hw hl
  have h : (x1 = 0 → K v_at v_parts v_at) ∧ (¬ (x1 = 0) → K (-9 : Int32) v_parts v_at) := h
  refine lv_iload_n hx hb dX2_firstStrayByte_45 rfl (lv_at hl 1 rfl) ?_
  refine lv_if_ne (tgt := 56) hx hb dX2_firstStrayByte_46 (by decide) (fun c11 => ?_) (fun c11 => ?_)
  · have h := h.2 c11
    refine lv_bipush (v := (-9 : Int32)) hx hb dX2_firstStrayByte_56 (by decide) ?_
    exact hr _ _ (v_parts, v_at) _ _ _ dX2_firstStrayByte_58 h hw
  · have h := h.1 c11
    refine lv_aload_n hx hb dX2_firstStrayByte_49 rfl (lv_at hl 0 rfl) ?_
    refine g_get (ci := 2) ha hw 0 2 rfl hi_X2_firstStrayByte_2 (by decide) (List.mem_of_getElem? (i := 1) rfl) rfl rfl dX2_firstStrayByte_50 ?_
    refine lv_goto (tgt := 58) hx hb dX2_firstStrayByte_53 (by decide) ?_
    exact hr _ _ (v_parts, v_at) _ _ _ dX2_firstStrayByte_58 h hw
def wp_X2_firstStrayByte (v_tape_bytes : IA) (v_tape_length : Int32) (v_parts : IA) (v_at : Int32) (K : Int32 → IA → Int32 → Prop) : Prop := ∃ n12 : Nat, wp_X2_firstStrayByte_7 v_tape_bytes v_tape_length (fun (x1_8 : Int32) (v_parts_9 : IA) (v_at_10 : Int32) => wp_X2_firstStrayByte_45 x1_8 v_parts_9 v_at_10 K) K n12 (0 : Int32) v_parts (0 : Int32)
set_option maxHeartbeats 4000000 in
set_option maxRecDepth 100000 in
theorem c_X2_firstStrayByte {l : Launch} {D : va_G} {cy : ClassId} {a_this a_tape a_tape_bytes a_parts : Nat} {v_tape_bytes : IA} {v_tape_length : Int32} {v_parts : IA} {v_at : Int32} {K : Int32 → IA → Int32 → Prop} : CtI l yX2_firstStrayByte wsX2_firstStrayByte { frames := 6, cells := 0, slots := 0, locals := 490 } 0 0 D cy [.ref a_this] (w_X2_firstStrayByte cy a_this a_tape a_tape_bytes a_parts v_tape_bytes v_tape_length v_parts v_at) (wp_X2_firstStrayByte v_tape_bytes v_tape_length v_parts v_at K) (fun (u : IA × Int32) => (w_X2_firstStrayByte cy a_this a_tape a_tape_bytes a_parts v_tape_bytes v_tape_length u.1 u.2)) (fun (r : Int32) (u : IA × Int32) => K r u.1 u.2) := by
  refine CtI.mk (cc := cX2_firstStrayByte) (nL := 2) (ty := .int) (by decide) rfl (Nat.le_of_ble_eq_true rfl) (fun r u h => rfl) ?_
  intro p e s m args below meth c A Q ha hr _ h ls hl hw
  have ha : am p s m args c cX2_firstStrayByte 2 RX2 wsX2_firstStrayByte D cy A := ha
  have hx := ha.1
  have hb := ha.2.1
  have hl : lv_has ls 2 [(0, .ref a_this)] := hl
  have h : ∃ n12 : Nat, wp_X2_firstStrayByte_7 v_tape_bytes v_tape_length (fun (x1_8 : Int32) (v_parts_9 : IA) (v_at_10 : Int32) => wp_X2_firstStrayByte_45 x1_8 v_parts_9 v_at_10 K) K n12 (0 : Int32) v_parts (0 : Int32) := h
  refine lv_aload_n hx hb dX2_firstStrayByte_0 rfl (lv_at hl 0 rfl) ?_
  refine lv_iconst (v := (0 : Int32)) hx hb dX2_firstStrayByte_1 (by decide) ?_
  refine g_put (ci := 2) (wn := (w_X2_firstStrayByte cy a_this a_tape a_tape_bytes a_parts v_tape_bytes v_tape_length v_parts (0 : Int32))) ha hw 0 2 rfl hi_X2_firstStrayByte_2 tyX2_ok nmX2 (by decide) (List.mem_of_getElem? (i := 1) rfl) rfl rfl rfl rfl (Nat.le_of_ble_eq_true rfl) rfl dX2_firstStrayByte_2 (fun H locs hw => ?_)
  refine lv_iconst (v := (0 : Int32)) hx hb dX2_firstStrayByte_5 (by decide) ?_
  refine lv_istore_n (lv' := [(1, .int (0 : Int32)), (0, .ref a_this)]) hx hb dX2_firstStrayByte_6 rfl hl (by decide) rfl (fun ls hl => ?_)
  obtain ⟨n9, h⟩ := h
  refine pl_X2_firstStrayByte_7 ha hr ?_ n9 _ _ _ _ _ _ h hw (lv_sub hl [1, 0] rfl)
  · intro x1_8 v_parts_9 v_at_10 H locs ls h hw hl
    try dsimp only at h
    refine pl_X2_firstStrayByte_45 ha hr h hw (lv_sub hl [0, 1] rfl)
theorem hq_X2_joins : yX2_joins.cls = RX2 ∧ yX2_joins.cls ≠ "java/lang/invoke/MethodHandle" ∧ yX2_joins.cls ≠ "java/lang/invoke/VarHandle" ∧ (parseMethodDescriptor yX2_joins.desc).map (fun d => d.parameters.length) = some 2 := by decide +kernel
def w_X2_joins (cy : ClassId) (a_this a_parts a_o1 a_o1_work a_o1_coats a_o1_beside a_o1_needParts : Nat) (w_tape : Value) (v_parts : IA) (v_at : Int32) (v_o1_rooms : Int32) (v_o1_doors : Int32) (v_o1_needs : Int32) (v_o1_work : IA) (v_o1_coats : IA) (v_o1_beside : IA) (v_o1_needParts : IA) : va_W := [(a_this, .inr (2, [w_tape, .ref a_parts, .int v_at])), (a_parts, .inl (cy, 4, .inl v_parts)), (a_o1, .inr (1, [.int v_o1_rooms, .int v_o1_doors, .int v_o1_needs, .ref a_o1_work, .ref a_o1_coats, .ref a_o1_beside, .ref a_o1_needParts])), (a_o1_work, .inl (cy, 6, .inl v_o1_work)), (a_o1_coats, .inl (cy, 6, .inl v_o1_coats)), (a_o1_beside, .inl (cy, 6, .inl v_o1_beside)), (a_o1_needParts, .inl (cy, 32, .inl v_o1_needParts))]
theorem hi_X2_joins_2 : ∀ w ∈ u_ws RX2 TX2 3, w ∈ wsX2_joins := fun _ h => List.mem_cons_of_mem _ (List.mem_append_left _ (List.mem_append_right _ h))
def wp_X2_joins (x2 : Int32) (v_parts : IA) (v_o1_rooms : Int32) (v_o1_doors : Int32) (v_o1_needs : Int32) (v_o1_work : IA) (v_o1_coats : IA) (v_o1_beside : IA) (v_o1_needParts : IA) (K : Int32 → Int32 → Int32 → Int32 → IA → IA → IA → IA → Prop) : Prop := (x2 = (100 : Int32) → wp_X1_addDoor (v_parts (0 : Int32).toNatClampNeg) (v_parts (1 : Int32).toNatClampNeg) v_o1_rooms v_o1_doors v_o1_beside (fun (r2 : Int32) (v_o1_doors_3 : Int32) (v_o1_beside_4 : IA) => K r2 v_o1_rooms v_o1_doors_3 v_o1_needs v_o1_work v_o1_coats v_o1_beside_4 v_o1_needParts)) ∧ (¬ x2 = (100 : Int32) → (x2 = (110 : Int32) → wp_X1_addNeed (v_parts (0 : Int32).toNatClampNeg) (v_parts (1 : Int32).toNatClampNeg) (v_parts (2 : Int32).toNatClampNeg) (v_parts (3 : Int32).toNatClampNeg) v_o1_rooms v_o1_needs v_o1_needParts (fun (r6 : Int32) (v_o1_needs_7 : Int32) (v_o1_needParts_8 : IA) => K r6 v_o1_rooms v_o1_doors v_o1_needs_7 v_o1_work v_o1_coats v_o1_beside v_o1_needParts_8)) ∧ (¬ x2 = (110 : Int32) → (x2 = (114 : Int32) → wp_X1_addRoom (v_parts (0 : Int32).toNatClampNeg) (v_parts (1 : Int32).toNatClampNeg) v_o1_rooms v_o1_work v_o1_coats (fun (r10 : Int32) (v_o1_rooms_11 : Int32) (v_o1_work_12 : IA) (v_o1_coats_13 : IA) => K r10 v_o1_rooms_11 v_o1_doors v_o1_needs v_o1_work_12 v_o1_coats_13 v_o1_beside v_o1_needParts)) ∧ (¬ x2 = (114 : Int32) → K (0 : Int32) v_o1_rooms v_o1_doors v_o1_needs v_o1_work v_o1_coats v_o1_beside v_o1_needParts)))
set_option maxHeartbeats 4000000 in
set_option maxRecDepth 100000 in
theorem c_X2_joins {l : Launch} {D : va_G} {cy : ClassId} {a_this a_parts a_o1 a_o1_work a_o1_coats a_o1_beside a_o1_needParts : Nat} {w_tape : Value} {v_parts : IA} {v_at : Int32} {v_o1_rooms : Int32} {v_o1_doors : Int32} {v_o1_needs : Int32} {v_o1_work : IA} {v_o1_coats : IA} {v_o1_beside : IA} {v_o1_needParts : IA} {x2 : Int32} {K : Int32 → Int32 → Int32 → Int32 → IA → IA → IA → IA → Prop} : CtI l yX2_joins wsX2_joins { frames := 4, cells := 0, slots := 0, locals := 324 } 0 0 D cy [.ref a_this, .ref a_o1, .int x2] (w_X2_joins cy a_this a_parts a_o1 a_o1_work a_o1_coats a_o1_beside a_o1_needParts w_tape v_parts v_at v_o1_rooms v_o1_doors v_o1_needs v_o1_work v_o1_coats v_o1_beside v_o1_needParts) (wp_X2_joins x2 v_parts v_o1_rooms v_o1_doors v_o1_needs v_o1_work v_o1_coats v_o1_beside v_o1_needParts K) (fun (u : Int32 × Int32 × Int32 × IA × IA × IA × IA) => (w_X2_joins cy a_this a_parts a_o1 a_o1_work a_o1_coats a_o1_beside a_o1_needParts w_tape v_parts v_at u.1 u.2.1 u.2.2.1 u.2.2.2.1 u.2.2.2.2.1 u.2.2.2.2.2.1 u.2.2.2.2.2.2)) (fun (r : Int32) (u : Int32 × Int32 × Int32 × IA × IA × IA × IA) => nz r ∧ K r u.1 u.2.1 u.2.2.1 u.2.2.2.1 u.2.2.2.2.1 u.2.2.2.2.2.1 u.2.2.2.2.2.2) := by
  refine CtI.mk (cc := cX2_joins) (nL := 3) (ty := .boolean) (by decide) rfl (Nat.le_of_ble_eq_true rfl) (fun r u h => h.1.nar) ?_
  intro p e s m args below meth c A Q ha hr _ h ls hl hw
  have ha : am p s m args c cX2_joins 3 RX2 wsX2_joins D cy A := ha
  have hx := ha.1
  have hb := ha.2.1
  have hl : lv_has ls 3 [(0, .ref a_this), (1, .ref a_o1), (2, .int x2)] := hl
  have h : (x2 = (100 : Int32) → wp_X1_addDoor (v_parts (0 : Int32).toNatClampNeg) (v_parts (1 : Int32).toNatClampNeg) v_o1_rooms v_o1_doors v_o1_beside (fun (r2 : Int32) (v_o1_doors_3 : Int32) (v_o1_beside_4 : IA) => K r2 v_o1_rooms v_o1_doors_3 v_o1_needs v_o1_work v_o1_coats v_o1_beside_4 v_o1_needParts)) ∧ (¬ x2 = (100 : Int32) → (x2 = (110 : Int32) → wp_X1_addNeed (v_parts (0 : Int32).toNatClampNeg) (v_parts (1 : Int32).toNatClampNeg) (v_parts (2 : Int32).toNatClampNeg) (v_parts (3 : Int32).toNatClampNeg) v_o1_rooms v_o1_needs v_o1_needParts (fun (r6 : Int32) (v_o1_needs_7 : Int32) (v_o1_needParts_8 : IA) => K r6 v_o1_rooms v_o1_doors v_o1_needs_7 v_o1_work v_o1_coats v_o1_beside v_o1_needParts_8)) ∧ (¬ x2 = (110 : Int32) → (x2 = (114 : Int32) → wp_X1_addRoom (v_parts (0 : Int32).toNatClampNeg) (v_parts (1 : Int32).toNatClampNeg) v_o1_rooms v_o1_work v_o1_coats (fun (r10 : Int32) (v_o1_rooms_11 : Int32) (v_o1_work_12 : IA) (v_o1_coats_13 : IA) => K r10 v_o1_rooms_11 v_o1_doors v_o1_needs v_o1_work_12 v_o1_coats_13 v_o1_beside v_o1_needParts)) ∧ (¬ x2 = (114 : Int32) → K (0 : Int32) v_o1_rooms v_o1_doors v_o1_needs v_o1_work v_o1_coats v_o1_beside v_o1_needParts))) := h
  refine lv_iload_n hx hb dX2_joins_0 rfl (lv_at hl 2 rfl) ?_
  by_cases c1 : x2 = (100 : Int32)
  · have h := h.1 c1
    refine lv_lookup (off := 52) (tgt := 53) hx hb dX2_joins_1 (by decide) (by rw [c1]; decide) (by decide) ?_
    refine lv_aload_n hx hb dX2_joins_53 rfl (lv_at hl 1 rfl) ?_
    refine lv_aload_n hx hb dX2_joins_54 rfl (lv_at hl 0 rfl) ?_
    refine g_get (ci := 2) ha hw 0 1 rfl hi_X2_joins_2 (by decide) (List.mem_of_getElem? (i := 1) rfl) rfl rfl dX2_joins_55 ?_
    refine lv_iconst (v := (0 : Int32)) hx hb dX2_joins_58 (by decide) ?_
    refine g_ald ha hw 1 rfl (vp_in_iff.mpr (by decide)) dX2_joins_59 ?_
    refine lv_aload_n hx hb dX2_joins_60 rfl (lv_at hl 0 rfl) ?_
    refine g_get (ci := 2) ha hw 0 1 rfl hi_X2_joins_2 (by decide) (List.mem_of_getElem? (i := 1) rfl) rfl rfl dX2_joins_61 ?_
    refine lv_iconst (v := (1 : Int32)) hx hb dX2_joins_64 (by decide) ?_
    refine g_ald ha hw 1 rfl (vp_in_iff.mpr (by decide)) dX2_joins_65 ?_
    refine g_cvi (rm := { frames := 3, cells := 0, slots := 0, locals := 235 }) (wn := (fun (u : Int32 × IA) => (w_X2_joins cy a_this a_parts a_o1 a_o1_work a_o1_coats a_o1_beside a_o1_needParts w_tape v_parts v_at v_o1_rooms u.1 v_o1_needs v_o1_work v_o1_coats u.2 v_o1_needParts))) (As := [.int (v_parts (0 : Int32).toNatClampNeg), .int (v_parts (1 : Int32).toNatClampNeg)]) ha hw hl.1 (c_X1_addDoor (cy := cy)) (cwV 2 ha.2.2.2.2.1 gX2_joins_X1_addDoor rfl rfl rfl hq_X1_addDoor ⟨Nat.le_of_ble_eq_true rfl, Nat.le_of_ble_eq_true rfl⟩) [2, 5] [0, 1, 3, 4, 6] [0, 1, 5, 2, 3, 6, 4] rfl rfl rfl rfl (by decide) rfl (fun _ => rfl) rfl rfl h rfl rfl (Nat.le_of_ble_eq_true rfl) dX2_joins_66 ⟨Nat.le_refl _, Nat.le_refl _⟩ (fun r2 u H locs h hw => ?_)
    obtain ⟨v_o1_doors_3, v_o1_beside_4⟩ := u
    have hw : wd D A s.heap (w_X2_joins cy a_this a_parts a_o1 a_o1_work a_o1_coats a_o1_beside a_o1_needParts w_tape v_parts v_at v_o1_rooms v_o1_doors_3 v_o1_needs v_o1_work v_o1_coats v_o1_beside_4 v_o1_needParts) H locs := hw
    obtain ⟨zr2, h⟩ := h
    try dsimp only at h
    exact hr _ _ (v_o1_rooms, v_o1_doors_3, v_o1_needs, v_o1_work, v_o1_coats, v_o1_beside_4, v_o1_needParts) _ _ _ dX2_joins_69 ⟨zr2, h⟩ hw
  have h := h.2 c1
  by_cases c5 : x2 = (110 : Int32)
  · have h := h.1 c5
    refine lv_lookup (off := 69) (tgt := 70) hx hb dX2_joins_1 (by decide) (by rw [c5]; decide) (by decide) ?_
    refine lv_aload_n hx hb dX2_joins_70 rfl (lv_at hl 1 rfl) ?_
    refine lv_aload_n hx hb dX2_joins_71 rfl (lv_at hl 0 rfl) ?_
    refine g_get (ci := 2) ha hw 0 1 rfl hi_X2_joins_2 (by decide) (List.mem_of_getElem? (i := 1) rfl) rfl rfl dX2_joins_72 ?_
    refine lv_iconst (v := (0 : Int32)) hx hb dX2_joins_75 (by decide) ?_
    refine g_ald ha hw 1 rfl (vp_in_iff.mpr (by decide)) dX2_joins_76 ?_
    refine lv_aload_n hx hb dX2_joins_77 rfl (lv_at hl 0 rfl) ?_
    refine g_get (ci := 2) ha hw 0 1 rfl hi_X2_joins_2 (by decide) (List.mem_of_getElem? (i := 1) rfl) rfl rfl dX2_joins_78 ?_
    refine lv_iconst (v := (1 : Int32)) hx hb dX2_joins_81 (by decide) ?_
    refine g_ald ha hw 1 rfl (vp_in_iff.mpr (by decide)) dX2_joins_82 ?_
    refine lv_aload_n hx hb dX2_joins_83 rfl (lv_at hl 0 rfl) ?_
    refine g_get (ci := 2) ha hw 0 1 rfl hi_X2_joins_2 (by decide) (List.mem_of_getElem? (i := 1) rfl) rfl rfl dX2_joins_84 ?_
    refine lv_iconst (v := (2 : Int32)) hx hb dX2_joins_87 (by decide) ?_
    refine g_ald ha hw 1 rfl (vp_in_iff.mpr (by decide)) dX2_joins_88 ?_
    refine lv_aload_n hx hb dX2_joins_89 rfl (lv_at hl 0 rfl) ?_
    refine g_get (ci := 2) ha hw 0 1 rfl hi_X2_joins_2 (by decide) (List.mem_of_getElem? (i := 1) rfl) rfl rfl dX2_joins_90 ?_
    refine lv_iconst (v := (3 : Int32)) hx hb dX2_joins_93 (by decide) ?_
    refine g_ald ha hw 1 rfl (vp_in_iff.mpr (by decide)) dX2_joins_94 ?_
    refine g_cvi (rm := { frames := 3, cells := 0, slots := 0, locals := 235 }) (wn := (fun (u : Int32 × IA) => (w_X2_joins cy a_this a_parts a_o1 a_o1_work a_o1_coats a_o1_beside a_o1_needParts w_tape v_parts v_at v_o1_rooms v_o1_doors u.1 v_o1_work v_o1_coats v_o1_beside u.2))) (As := [.int (v_parts (0 : Int32).toNatClampNeg), .int (v_parts (1 : Int32).toNatClampNeg), .int (v_parts (2 : Int32).toNatClampNeg), .int (v_parts (3 : Int32).toNatClampNeg)]) ha hw hl.1 (c_X1_addNeed (cy := cy)) (cwV 4 ha.2.2.2.2.1 gX2_joins_X1_addNeed rfl rfl rfl hq_X1_addNeed ⟨Nat.le_of_ble_eq_true rfl, Nat.le_of_ble_eq_true rfl⟩) [2, 6] [0, 1, 3, 4, 5] [0, 1, 5, 2, 3, 4, 6] rfl rfl rfl rfl (by decide) rfl (fun _ => rfl) rfl rfl h rfl rfl (Nat.le_of_ble_eq_true rfl) dX2_joins_95 ⟨Nat.le_refl _, Nat.le_refl _⟩ (fun r6 u H locs h hw => ?_)
    obtain ⟨v_o1_needs_7, v_o1_needParts_8⟩ := u
    have hw : wd D A s.heap (w_X2_joins cy a_this a_parts a_o1 a_o1_work a_o1_coats a_o1_beside a_o1_needParts w_tape v_parts v_at v_o1_rooms v_o1_doors v_o1_needs_7 v_o1_work v_o1_coats v_o1_beside v_o1_needParts_8) H locs := hw
    obtain ⟨zr6, h⟩ := h
    try dsimp only at h
    exact hr _ _ (v_o1_rooms, v_o1_doors, v_o1_needs_7, v_o1_work, v_o1_coats, v_o1_beside, v_o1_needParts_8) _ _ _ dX2_joins_98 ⟨zr6, h⟩ hw
  have h := h.2 c5
  by_cases c9 : x2 = (114 : Int32)
  · have h := h.1 c9
    refine lv_lookup (off := 35) (tgt := 36) hx hb dX2_joins_1 (by decide) (by rw [c9]; decide) (by decide) ?_
    refine lv_aload_n hx hb dX2_joins_36 rfl (lv_at hl 1 rfl) ?_
    refine lv_aload_n hx hb dX2_joins_37 rfl (lv_at hl 0 rfl) ?_
    refine g_get (ci := 2) ha hw 0 1 rfl hi_X2_joins_2 (by decide) (List.mem_of_getElem? (i := 1) rfl) rfl rfl dX2_joins_38 ?_
    refine lv_iconst (v := (0 : Int32)) hx hb dX2_joins_41 (by decide) ?_
    refine g_ald ha hw 1 rfl (vp_in_iff.mpr (by decide)) dX2_joins_42 ?_
    refine lv_aload_n hx hb dX2_joins_43 rfl (lv_at hl 0 rfl) ?_
    refine g_get (ci := 2) ha hw 0 1 rfl hi_X2_joins_2 (by decide) (List.mem_of_getElem? (i := 1) rfl) rfl rfl dX2_joins_44 ?_
    refine lv_iconst (v := (1 : Int32)) hx hb dX2_joins_47 (by decide) ?_
    refine g_ald ha hw 1 rfl (vp_in_iff.mpr (by decide)) dX2_joins_48 ?_
    refine g_cvi (rm := { frames := 1, cells := 0, slots := 0, locals := 64 }) (wn := (fun (u : Int32 × IA × IA) => (w_X2_joins cy a_this a_parts a_o1 a_o1_work a_o1_coats a_o1_beside a_o1_needParts w_tape v_parts v_at u.1 v_o1_doors v_o1_needs u.2.1 u.2.2 v_o1_beside v_o1_needParts))) (As := [.int (v_parts (0 : Int32).toNatClampNeg), .int (v_parts (1 : Int32).toNatClampNeg)]) ha hw hl.1 (c_X1_addRoom (cy := cy)) (cwV 2 ha.2.2.2.2.1 gX2_joins_X1_addRoom rfl rfl rfl hq_X1_addRoom ⟨Nat.le_of_ble_eq_true rfl, Nat.le_of_ble_eq_true rfl⟩) [2, 3, 4] [0, 1, 5, 6] [0, 1, 4, 5, 6, 2, 3] rfl rfl rfl rfl (by decide) rfl (fun _ => rfl) rfl rfl h rfl rfl (Nat.le_of_ble_eq_true rfl) dX2_joins_49 ⟨Nat.le_refl _, Nat.le_refl _⟩ (fun r10 u H locs h hw => ?_)
    obtain ⟨v_o1_rooms_11, v_o1_work_12, v_o1_coats_13⟩ := u
    have hw : wd D A s.heap (w_X2_joins cy a_this a_parts a_o1 a_o1_work a_o1_coats a_o1_beside a_o1_needParts w_tape v_parts v_at v_o1_rooms_11 v_o1_doors v_o1_needs v_o1_work_12 v_o1_coats_13 v_o1_beside v_o1_needParts) H locs := hw
    obtain ⟨zr10, h⟩ := h
    try dsimp only at h
    exact hr _ _ (v_o1_rooms_11, v_o1_doors, v_o1_needs, v_o1_work_12, v_o1_coats_13, v_o1_beside, v_o1_needParts) _ _ _ dX2_joins_52 ⟨zr10, h⟩ hw
  have h := h.2 c9
  refine lv_lookup (off := 98) (tgt := 99) hx hb dX2_joins_1 (by decide) ((lv_osw c1 (by decide)).trans ((lv_osw c5 (by decide)).trans ((lv_osw c9 (by decide)).trans (rfl)))) (by decide) ?_
  refine lv_iconst (v := (0 : Int32)) hx hb dX2_joins_99 (by decide) ?_
  exact hr _ _ (v_o1_rooms, v_o1_doors, v_o1_needs, v_o1_work, v_o1_coats, v_o1_beside, v_o1_needParts) _ _ _ dX2_joins_100 ⟨nz0, h⟩ hw
theorem hq_X2_takeStatements : yX2_takeStatements.cls = RX2 ∧ yX2_takeStatements.cls ≠ "java/lang/invoke/MethodHandle" ∧ yX2_takeStatements.cls ≠ "java/lang/invoke/VarHandle" ∧ (parseMethodDescriptor yX2_takeStatements.desc).map (fun d => d.parameters.length) = some 1 := by decide +kernel
def w_X2_takeStatements (cy : ClassId) (a_this a_tape a_tape_bytes a_parts a_o1 a_o1_work a_o1_coats a_o1_beside a_o1_needParts : Nat) (v_tape_bytes : IA) (v_tape_length : Int32) (v_parts : IA) (v_at : Int32) (v_o1_rooms : Int32) (v_o1_doors : Int32) (v_o1_needs : Int32) (v_o1_work : IA) (v_o1_coats : IA) (v_o1_beside : IA) (v_o1_needParts : IA) : va_W := [(a_this, .inr (2, [.ref a_tape, .ref a_parts, .int v_at])), (a_tape, .inr (8, [.ref a_tape_bytes, .int v_tape_length])), (a_tape_bytes, .inl (cy, 48, .inl v_tape_bytes)), (a_parts, .inl (cy, 4, .inl v_parts)), (a_o1, .inr (1, [.int v_o1_rooms, .int v_o1_doors, .int v_o1_needs, .ref a_o1_work, .ref a_o1_coats, .ref a_o1_beside, .ref a_o1_needParts])), (a_o1_work, .inl (cy, 6, .inl v_o1_work)), (a_o1_coats, .inl (cy, 6, .inl v_o1_coats)), (a_o1_beside, .inl (cy, 6, .inl v_o1_beside)), (a_o1_needParts, .inl (cy, 32, .inl v_o1_needParts))]
theorem hi_X2_takeStatements_2 : ∀ w ∈ u_ws RX2 TX2 3, w ∈ wsX2_takeStatements := fun _ h => List.mem_cons_of_mem _ (List.mem_append_left _ (List.mem_append_left _ (List.mem_append_right _ h)))
def wp_X2_takeStatements_7 (v_tape_bytes : IA) (v_tape_length : Int32) (K : Int32 → IA → Int32 → Int32 → Int32 → Int32 → IA → IA → IA → IA → Prop) : Nat → Int32 → IA → Int32 → Int32 → Int32 → Int32 → IA → IA → IA → IA → Prop
  | 0, _, _, _, _, _, _, _, _, _, _ => False
  | n + 1, x2, v_parts, v_at, v_o1_rooms, v_o1_doors, v_o1_needs, v_o1_work, v_o1_coats, v_o1_beside, v_o1_needParts => ((48 : Int32) ≤ x2 → K x2 v_parts v_at v_o1_rooms v_o1_doors v_o1_needs v_o1_work v_o1_coats v_o1_beside v_o1_needParts) ∧ (¬ ((48 : Int32) ≤ x2) → wp_X8_size v_tape_length (fun (r2 : Int32) => (r2 ≤ v_at → K x2 v_parts v_at v_o1_rooms v_o1_doors v_o1_needs v_o1_work v_o1_coats v_o1_beside v_o1_needParts) ∧ (¬ (r2 ≤ v_at) → wp_X2_readStatement v_tape_bytes v_tape_length v_parts v_at (fun (r4 : Int32) (v_parts_5 : IA) (v_at_6 : Int32) => (r4 = 0 → K ((-2000 : Int32) - v_at) v_parts_5 v_at_6 v_o1_rooms v_o1_doors v_o1_needs v_o1_work v_o1_coats v_o1_beside v_o1_needParts) ∧ (¬ (r4 = 0) → wp_X8_byteAt v_at v_tape_bytes v_tape_length (fun (r8 : Int32) => wp_X2_joins r8 v_parts_5 v_o1_rooms v_o1_doors v_o1_needs v_o1_work v_o1_coats v_o1_beside v_o1_needParts (fun (r9 : Int32) (v_o1_rooms_10 : Int32) (v_o1_doors_11 : Int32) (v_o1_needs_12 : Int32) (v_o1_work_13 : IA) (v_o1_coats_14 : IA) (v_o1_beside_15 : IA) (v_o1_needParts_16 : IA) => (r9 = 0 → K ((-2000 : Int32) - v_at) v_parts_5 v_at_6 v_o1_rooms_10 v_o1_doors_11 v_o1_needs_12 v_o1_work_13 v_o1_coats_14 v_o1_beside_15 v_o1_needParts_16) ∧ (¬ (r9 = 0) → wp_X2_takeStatements_7 v_tape_bytes v_tape_length K n (x2 + (1 : Int32)) v_parts_5 v_at_6 v_o1_rooms_10 v_o1_doors_11 v_o1_needs_12 v_o1_work_13 v_o1_coats_14 v_o1_beside_15 v_o1_needParts_16))))))))
set_option maxHeartbeats 4000000 in
set_option maxRecDepth 100000 in
theorem pl_X2_takeStatements_7 {p : Program} {l : Launch} {e : Env} {s : State} {m : MethodId} {args : Array Value} {below : List Frame} {meth : Method} {c : Code} {A : Nat → Prop} {Q : State → Prop} {D : va_G} {cy : ClassId} {a_this a_tape a_tape_bytes a_parts a_o1 a_o1_work a_o1_coats a_o1_beside a_o1_needParts : Nat} {v_tape_bytes : IA} {v_tape_length : Int32} {K : Int32 → IA → Int32 → Int32 → Int32 → Int32 → IA → IA → IA → IA → Prop} (ha : am p s m args c cX2_takeStatements 4 RX2 wsX2_takeStatements D cy A) (hr : rtI p l e { frames := 6, cells := 0, slots := 0, locals := 490 } s m args below meth c 0 0 Q cX2_takeStatements D A (fun (u : IA × Int32 × Int32 × Int32 × Int32 × IA × IA × IA × IA) => (w_X2_takeStatements cy a_this a_tape a_tape_bytes a_parts a_o1 a_o1_work a_o1_coats a_o1_beside a_o1_needParts v_tape_bytes v_tape_length u.1 u.2.1 u.2.2.1 u.2.2.2.1 u.2.2.2.2.1 u.2.2.2.2.2.1 u.2.2.2.2.2.2.1 u.2.2.2.2.2.2.2.1 u.2.2.2.2.2.2.2.2)) (fun (r : Int32) (u : IA × Int32 × Int32 × Int32 × Int32 × IA × IA × IA × IA) => K r u.1 u.2.1 u.2.2.1 u.2.2.2.1 u.2.2.2.2.1 u.2.2.2.2.2.1 u.2.2.2.2.2.2.1 u.2.2.2.2.2.2.2.1 u.2.2.2.2.2.2.2.2)) : ∀ (n : Nat) (x2 : Int32) (v_parts : IA) (v_at : Int32) (v_o1_rooms : Int32) (v_o1_doors : Int32) (v_o1_needs : Int32) (v_o1_work : IA) (v_o1_coats : IA) (v_o1_beside : IA) (v_o1_needParts : IA) (H : Heap) (locs : List Loc) (ls : Array Slot), wp_X2_takeStatements_7 v_tape_bytes v_tape_length K n x2 v_parts v_at v_o1_rooms v_o1_doors v_o1_needs v_o1_work v_o1_coats v_o1_beside v_o1_needParts → wd D A s.heap (w_X2_takeStatements cy a_this a_tape a_tape_bytes a_parts a_o1 a_o1_work a_o1_coats a_o1_beside a_o1_needParts v_tape_bytes v_tape_length v_parts v_at v_o1_rooms v_o1_doors v_o1_needs v_o1_work v_o1_coats v_o1_beside v_o1_needParts) H locs → lv_has ls 4 [(0, .ref a_this), (1, .ref a_o1), (2, .int x2)] → W p l e { frames := 6, cells := 0, slots := 0, locals := 490 } s m args below meth c H locs 0 0 Q (F0 m 7 ls []) := by
  have hx := ha.1
  have hb := ha.2.1
  intro n
  induction n with
  | zero => exact fun _ _ _ _ _ _ _ _ _ _ _ _ _ h _ _ => False.elim h
  | succ n ih =>
    intro x2 v_parts v_at v_o1_rooms v_o1_doors v_o1_needs v_o1_work v_o1_coats v_o1_beside v_o1_needParts H locs ls h hw hl
    have h : ((48 : Int32) ≤ x2 → K x2 v_parts v_at v_o1_rooms v_o1_doors v_o1_needs v_o1_work v_o1_coats v_o1_beside v_o1_needParts) ∧ (¬ ((48 : Int32) ≤ x2) → wp_X8_size v_tape_length (fun (r2 : Int32) => (r2 ≤ v_at → K x2 v_parts v_at v_o1_rooms v_o1_doors v_o1_needs v_o1_work v_o1_coats v_o1_beside v_o1_needParts) ∧ (¬ (r2 ≤ v_at) → wp_X2_readStatement v_tape_bytes v_tape_length v_parts v_at (fun (r4 : Int32) (v_parts_5 : IA) (v_at_6 : Int32) => (r4 = 0 → K ((-2000 : Int32) - v_at) v_parts_5 v_at_6 v_o1_rooms v_o1_doors v_o1_needs v_o1_work v_o1_coats v_o1_beside v_o1_needParts) ∧ (¬ (r4 = 0) → wp_X8_byteAt v_at v_tape_bytes v_tape_length (fun (r8 : Int32) => wp_X2_joins r8 v_parts_5 v_o1_rooms v_o1_doors v_o1_needs v_o1_work v_o1_coats v_o1_beside v_o1_needParts (fun (r9 : Int32) (v_o1_rooms_10 : Int32) (v_o1_doors_11 : Int32) (v_o1_needs_12 : Int32) (v_o1_work_13 : IA) (v_o1_coats_14 : IA) (v_o1_beside_15 : IA) (v_o1_needParts_16 : IA) => (r9 = 0 → K ((-2000 : Int32) - v_at) v_parts_5 v_at_6 v_o1_rooms_10 v_o1_doors_11 v_o1_needs_12 v_o1_work_13 v_o1_coats_14 v_o1_beside_15 v_o1_needParts_16) ∧ (¬ (r9 = 0) → wp_X2_takeStatements_7 v_tape_bytes v_tape_length K n (x2 + (1 : Int32)) v_parts_5 v_at_6 v_o1_rooms_10 v_o1_doors_11 v_o1_needs_12 v_o1_work_13 v_o1_coats_14 v_o1_beside_15 v_o1_needParts_16)))))))) := h
    refine lv_iload_n hx hb dX2_takeStatements_7 rfl (lv_at hl 2 rfl) ?_
    refine lv_bipush (v := (48 : Int32)) hx hb dX2_takeStatements_8 (by decide) ?_
    refine lv_icmp_ge (tgt := 67) hx hb dX2_takeStatements_10 (by decide) (fun c1 => ?_) (fun c1 => ?_)
    · have h := h.1 c1
      refine lv_iload_n hx hb dX2_takeStatements_67 rfl (lv_at hl 2 rfl) ?_
      exact hr _ _ (v_parts, v_at, v_o1_rooms, v_o1_doors, v_o1_needs, v_o1_work, v_o1_coats, v_o1_beside, v_o1_needParts) _ _ _ dX2_takeStatements_68 h hw
    · have h := h.2 c1
      refine lv_aload_n hx hb dX2_takeStatements_13 rfl (lv_at hl 0 rfl) ?_
      refine g_get (ci := 2) ha hw 0 2 rfl hi_X2_takeStatements_2 (by decide) (List.mem_of_getElem? (i := 1) rfl) rfl rfl dX2_takeStatements_14 ?_
      refine lv_aload_n hx hb dX2_takeStatements_17 rfl (lv_at hl 0 rfl) ?_
      refine g_get (ci := 2) ha hw 0 0 rfl hi_X2_takeStatements_2 (by decide) (List.mem_of_getElem? (i := 2) rfl) rfl rfl dX2_takeStatements_18 ?_
      refine g_cvi (rm := { frames := 1, cells := 0, slots := 0, locals := 64 }) (wn := (fun (u : Unit) => (w_X2_takeStatements cy a_this a_tape a_tape_bytes a_parts a_o1 a_o1_work a_o1_coats a_o1_beside a_o1_needParts v_tape_bytes v_tape_length v_parts v_at v_o1_rooms v_o1_doors v_o1_needs v_o1_work v_o1_coats v_o1_beside v_o1_needParts))) (As := []) ha hw hl.1 (c_X8_size (cy := cy)) (cwV 0 ha.2.2.2.2.1 gX2_takeStatements_X8_size rfl rfl rfl hq_X8_size ⟨Nat.le_of_ble_eq_true rfl, Nat.le_of_ble_eq_true rfl⟩) [1] [0, 2, 3, 4, 5, 6, 7, 8] [0, 8, 1, 2, 3, 4, 5, 6, 7] rfl rfl rfl rfl (by decide) rfl (fun _ => rfl) rfl rfl h rfl rfl (Nat.le_of_ble_eq_true rfl) dX2_takeStatements_21 ⟨Nat.le_refl _, Nat.le_refl _⟩ (fun r2 u H locs h hw => ?_)
      have hw : wd D A s.heap (w_X2_takeStatements cy a_this a_tape a_tape_bytes a_parts a_o1 a_o1_work a_o1_coats a_o1_beside a_o1_needParts v_tape_bytes v_tape_length v_parts v_at v_o1_rooms v_o1_doors v_o1_needs v_o1_work v_o1_coats v_o1_beside v_o1_needParts) H locs := hw
      try dsimp only at h
      refine lv_icmp_ge (tgt := 67) hx hb dX2_takeStatements_24 (by decide) (fun c3 => ?_) (fun c3 => ?_)
      · have h := h.1 c3
        refine lv_iload_n hx hb dX2_takeStatements_67 rfl (lv_at hl 2 rfl) ?_
        exact hr _ _ (v_parts, v_at, v_o1_rooms, v_o1_doors, v_o1_needs, v_o1_work, v_o1_coats, v_o1_beside, v_o1_needParts) _ _ _ dX2_takeStatements_68 h hw
      · have h := h.2 c3
        refine lv_aload_n hx hb dX2_takeStatements_27 rfl (lv_at hl 0 rfl) ?_
        refine g_get (ci := 2) ha hw 0 2 rfl hi_X2_takeStatements_2 (by decide) (List.mem_of_getElem? (i := 1) rfl) rfl rfl dX2_takeStatements_28 ?_
        refine lv_istore_n (lv' := [(3, .int v_at), (0, .ref a_this), (1, .ref a_o1), (2, .int x2)]) hx hb dX2_takeStatements_31 rfl hl (by decide) rfl (fun ls hl => ?_)
        refine lv_aload_n hx hb dX2_takeStatements_32 rfl (lv_at hl 1 rfl) ?_
        refine g_cvi (rm := { frames := 5, cells := 0, slots := 0, locals := 406 }) (wn := (fun (u : IA × Int32) => (w_X2_takeStatements cy a_this a_tape a_tape_bytes a_parts a_o1 a_o1_work a_o1_coats a_o1_beside a_o1_needParts v_tape_bytes v_tape_length u.1 u.2 v_o1_rooms v_o1_doors v_o1_needs v_o1_work v_o1_coats v_o1_beside v_o1_needParts))) (As := []) ha hw hl.1 (c_X2_readStatement (cy := cy)) (cwV 0 ha.2.2.2.2.1 gX2_takeStatements_X2_readStatement rfl rfl rfl hq_X2_readStatement ⟨Nat.le_of_ble_eq_true rfl, Nat.le_of_ble_eq_true rfl⟩) [0, 1, 2, 3] [4, 5, 6, 7, 8] [5, 6, 7, 8, 0, 1, 2, 3, 4] rfl rfl rfl rfl (by decide) rfl (fun _ => rfl) rfl rfl h rfl rfl (Nat.le_of_ble_eq_true rfl) dX2_takeStatements_33 ⟨Nat.le_refl _, Nat.le_refl _⟩ (fun r4 u H locs h hw => ?_)
        obtain ⟨v_parts_5, v_at_6⟩ := u
        have hw : wd D A s.heap (w_X2_takeStatements cy a_this a_tape a_tape_bytes a_parts a_o1 a_o1_work a_o1_coats a_o1_beside a_o1_needParts v_tape_bytes v_tape_length v_parts_5 v_at_6 v_o1_rooms v_o1_doors v_o1_needs v_o1_work v_o1_coats v_o1_beside v_o1_needParts) H locs := hw
        obtain ⟨zr4, h⟩ := h
        try dsimp only at h
        refine lv_if_eq (tgt := 55) hx hb dX2_takeStatements_36 (by decide) (fun c7 => ?_) (fun c7 => ?_)
        · have h := h.1 c7
          refine lv_sipush (v := (-2000 : Int32)) hx hb dX2_takeStatements_55 (by decide) ?_
          refine lv_iload_n hx hb dX2_takeStatements_58 rfl (lv_at hl 0 rfl) ?_
          refine lv_isub hx hb dX2_takeStatements_59 ?_
          exact hr _ _ (v_parts_5, v_at_6, v_o1_rooms, v_o1_doors, v_o1_needs, v_o1_work, v_o1_coats, v_o1_beside, v_o1_needParts) _ _ _ dX2_takeStatements_60 h hw
        · have h := h.2 c7
          refine lv_aload_n hx hb dX2_takeStatements_39 rfl (lv_at hl 1 rfl) ?_
          refine lv_aload_n hx hb dX2_takeStatements_40 rfl (lv_at hl 2 rfl) ?_
          refine lv_aload_n hx hb dX2_takeStatements_41 rfl (lv_at hl 1 rfl) ?_
          refine g_get (ci := 2) ha hw 0 0 rfl hi_X2_takeStatements_2 (by decide) (List.mem_of_getElem? (i := 2) rfl) rfl rfl dX2_takeStatements_42 ?_
          refine lv_iload_n hx hb dX2_takeStatements_45 rfl (lv_at hl 0 rfl) ?_
          refine g_cvi (rm := { frames := 1, cells := 0, slots := 0, locals := 64 }) (wn := (fun (u : Unit) => (w_X2_takeStatements cy a_this a_tape a_tape_bytes a_parts a_o1 a_o1_work a_o1_coats a_o1_beside a_o1_needParts v_tape_bytes v_tape_length v_parts_5 v_at_6 v_o1_rooms v_o1_doors v_o1_needs v_o1_work v_o1_coats v_o1_beside v_o1_needParts))) (As := [.int v_at]) ha hw hl.1 (c_X8_byteAt (cy := cy)) (cwV 1 ha.2.2.2.2.1 gX2_takeStatements_X8_byteAt rfl rfl rfl hq_X8_byteAt ⟨Nat.le_of_ble_eq_true rfl, Nat.le_of_ble_eq_true rfl⟩) [1, 2] [0, 3, 4, 5, 6, 7, 8] [0, 7, 8, 1, 2, 3, 4, 5, 6] rfl rfl rfl rfl (by decide) rfl (fun _ => rfl) rfl rfl h rfl rfl (Nat.le_of_ble_eq_true rfl) dX2_takeStatements_46 ⟨Nat.le_refl _, Nat.le_refl _⟩ (fun r8 u H locs h hw => ?_)
          have hw : wd D A s.heap (w_X2_takeStatements cy a_this a_tape a_tape_bytes a_parts a_o1 a_o1_work a_o1_coats a_o1_beside a_o1_needParts v_tape_bytes v_tape_length v_parts_5 v_at_6 v_o1_rooms v_o1_doors v_o1_needs v_o1_work v_o1_coats v_o1_beside v_o1_needParts) H locs := hw
          try dsimp only at h
          refine g_cvi (rm := { frames := 4, cells := 0, slots := 0, locals := 324 }) (wn := (fun (u : Int32 × Int32 × Int32 × IA × IA × IA × IA) => (w_X2_takeStatements cy a_this a_tape a_tape_bytes a_parts a_o1 a_o1_work a_o1_coats a_o1_beside a_o1_needParts v_tape_bytes v_tape_length v_parts_5 v_at_6 u.1 u.2.1 u.2.2.1 u.2.2.2.1 u.2.2.2.2.1 u.2.2.2.2.2.1 u.2.2.2.2.2.2))) (As := [.ref a_o1, .int r8]) ha hw hl.1 (c_X2_joins (cy := cy)) (cwV 2 ha.2.2.2.2.1 gX2_takeStatements_X2_joins rfl rfl rfl hq_X2_joins ⟨Nat.le_of_ble_eq_true rfl, Nat.le_of_ble_eq_true rfl⟩) [0, 3, 4, 5, 6, 7, 8] [1, 2] [2, 0, 1, 3, 4, 5, 6, 7, 8] rfl rfl rfl rfl (by decide) rfl (fun _ => rfl) rfl rfl h rfl rfl (Nat.le_of_ble_eq_true rfl) dX2_takeStatements_49 ⟨Nat.le_refl _, Nat.le_refl _⟩ (fun r9 u H locs h hw => ?_)
          obtain ⟨v_o1_rooms_10, v_o1_doors_11, v_o1_needs_12, v_o1_work_13, v_o1_coats_14, v_o1_beside_15, v_o1_needParts_16⟩ := u
          have hw : wd D A s.heap (w_X2_takeStatements cy a_this a_tape a_tape_bytes a_parts a_o1 a_o1_work a_o1_coats a_o1_beside a_o1_needParts v_tape_bytes v_tape_length v_parts_5 v_at_6 v_o1_rooms_10 v_o1_doors_11 v_o1_needs_12 v_o1_work_13 v_o1_coats_14 v_o1_beside_15 v_o1_needParts_16) H locs := hw
          obtain ⟨zr9, h⟩ := h
          try dsimp only at h
          refine lv_if_ne (tgt := 61) hx hb dX2_takeStatements_52 (by decide) (fun c17 => ?_) (fun c17 => ?_)
          · have h := h.2 c17
            refine lv_iinc (v := x2 + (1 : Int32)) (lv' := [(2, .int (x2 + (1 : Int32))), (3, .int v_at), (0, .ref a_this), (1, .ref a_o1)]) hx hb dX2_takeStatements_61 hl (k := 3) rfl rfl (by decide) rfl (fun ls hl => ?_)
            refine lv_goto (tgt := 7) hx hb dX2_takeStatements_64 (by decide) ?_
            exact ih _ _ _ _ _ _ _ _ _ _ _ _ _ h hw (lv_sub hl [2, 3, 0] rfl)
          · have h := h.1 c17
            refine lv_sipush (v := (-2000 : Int32)) hx hb dX2_takeStatements_55 (by decide) ?_
            refine lv_iload_n hx hb dX2_takeStatements_58 rfl (lv_at hl 0 rfl) ?_
            refine lv_isub hx hb dX2_takeStatements_59 ?_
            exact hr _ _ (v_parts_5, v_at_6, v_o1_rooms_10, v_o1_doors_11, v_o1_needs_12, v_o1_work_13, v_o1_coats_14, v_o1_beside_15, v_o1_needParts_16) _ _ _ dX2_takeStatements_60 h hw
def wp_X2_takeStatements (v_tape_bytes : IA) (v_tape_length : Int32) (v_parts : IA) (v_at : Int32) (v_o1_rooms : Int32) (v_o1_doors : Int32) (v_o1_needs : Int32) (v_o1_work : IA) (v_o1_coats : IA) (v_o1_beside : IA) (v_o1_needParts : IA) (K : Int32 → IA → Int32 → Int32 → Int32 → Int32 → IA → IA → IA → IA → Prop) : Prop := ∃ n18 : Nat, wp_X2_takeStatements_7 v_tape_bytes v_tape_length K n18 (0 : Int32) v_parts (0 : Int32) v_o1_rooms v_o1_doors v_o1_needs v_o1_work v_o1_coats v_o1_beside v_o1_needParts
set_option maxHeartbeats 4000000 in
set_option maxRecDepth 100000 in
theorem c_X2_takeStatements {l : Launch} {D : va_G} {cy : ClassId} {a_this a_tape a_tape_bytes a_parts a_o1 a_o1_work a_o1_coats a_o1_beside a_o1_needParts : Nat} {v_tape_bytes : IA} {v_tape_length : Int32} {v_parts : IA} {v_at : Int32} {v_o1_rooms : Int32} {v_o1_doors : Int32} {v_o1_needs : Int32} {v_o1_work : IA} {v_o1_coats : IA} {v_o1_beside : IA} {v_o1_needParts : IA} {K : Int32 → IA → Int32 → Int32 → Int32 → Int32 → IA → IA → IA → IA → Prop} : CtI l yX2_takeStatements wsX2_takeStatements { frames := 6, cells := 0, slots := 0, locals := 490 } 0 0 D cy [.ref a_this, .ref a_o1] (w_X2_takeStatements cy a_this a_tape a_tape_bytes a_parts a_o1 a_o1_work a_o1_coats a_o1_beside a_o1_needParts v_tape_bytes v_tape_length v_parts v_at v_o1_rooms v_o1_doors v_o1_needs v_o1_work v_o1_coats v_o1_beside v_o1_needParts) (wp_X2_takeStatements v_tape_bytes v_tape_length v_parts v_at v_o1_rooms v_o1_doors v_o1_needs v_o1_work v_o1_coats v_o1_beside v_o1_needParts K) (fun (u : IA × Int32 × Int32 × Int32 × Int32 × IA × IA × IA × IA) => (w_X2_takeStatements cy a_this a_tape a_tape_bytes a_parts a_o1 a_o1_work a_o1_coats a_o1_beside a_o1_needParts v_tape_bytes v_tape_length u.1 u.2.1 u.2.2.1 u.2.2.2.1 u.2.2.2.2.1 u.2.2.2.2.2.1 u.2.2.2.2.2.2.1 u.2.2.2.2.2.2.2.1 u.2.2.2.2.2.2.2.2)) (fun (r : Int32) (u : IA × Int32 × Int32 × Int32 × Int32 × IA × IA × IA × IA) => K r u.1 u.2.1 u.2.2.1 u.2.2.2.1 u.2.2.2.2.1 u.2.2.2.2.2.1 u.2.2.2.2.2.2.1 u.2.2.2.2.2.2.2.1 u.2.2.2.2.2.2.2.2) := by
  refine CtI.mk (cc := cX2_takeStatements) (nL := 4) (ty := .int) (by decide) rfl (Nat.le_of_ble_eq_true rfl) (fun r u h => rfl) ?_
  intro p e s m args below meth c A Q ha hr _ h ls hl hw
  have ha : am p s m args c cX2_takeStatements 4 RX2 wsX2_takeStatements D cy A := ha
  have hx := ha.1
  have hb := ha.2.1
  have hl : lv_has ls 4 [(0, .ref a_this), (1, .ref a_o1)] := hl
  have h : ∃ n18 : Nat, wp_X2_takeStatements_7 v_tape_bytes v_tape_length K n18 (0 : Int32) v_parts (0 : Int32) v_o1_rooms v_o1_doors v_o1_needs v_o1_work v_o1_coats v_o1_beside v_o1_needParts := h
  refine lv_aload_n hx hb dX2_takeStatements_0 rfl (lv_at hl 0 rfl) ?_
  refine lv_iconst (v := (0 : Int32)) hx hb dX2_takeStatements_1 (by decide) ?_
  refine g_put (ci := 2) (wn := (w_X2_takeStatements cy a_this a_tape a_tape_bytes a_parts a_o1 a_o1_work a_o1_coats a_o1_beside a_o1_needParts v_tape_bytes v_tape_length v_parts (0 : Int32) v_o1_rooms v_o1_doors v_o1_needs v_o1_work v_o1_coats v_o1_beside v_o1_needParts)) ha hw 0 2 rfl hi_X2_takeStatements_2 tyX2_ok nmX2 (by decide) (List.mem_of_getElem? (i := 1) rfl) rfl rfl rfl rfl (Nat.le_of_ble_eq_true rfl) rfl dX2_takeStatements_2 (fun H locs hw => ?_)
  refine lv_iconst (v := (0 : Int32)) hx hb dX2_takeStatements_5 (by decide) ?_
  refine lv_istore_n (lv' := [(2, .int (0 : Int32)), (0, .ref a_this), (1, .ref a_o1)]) hx hb dX2_takeStatements_6 rfl hl (by decide) rfl (fun ls hl => ?_)
  obtain ⟨n9, h⟩ := h
  refine pl_X2_takeStatements_7 ha hr n9 _ _ _ _ _ _ _ _ _ _ _ _ _ h hw (lv_sub hl [1, 2, 0] rfl)
theorem hq_X2_read : yX2_read.cls = RX2 ∧ yX2_read.cls ≠ "java/lang/invoke/MethodHandle" ∧ yX2_read.cls ≠ "java/lang/invoke/VarHandle" ∧ (parseMethodDescriptor yX2_read.desc).map (fun d => d.parameters.length) = some 1 := by decide +kernel
def w_X2_read (cy : ClassId) (a_this a_tape a_tape_bytes a_parts a_o1 a_o1_work a_o1_coats a_o1_beside a_o1_needParts : Nat) (v_tape_bytes : IA) (v_tape_length : Int32) (v_parts : IA) (v_at : Int32) (v_o1_rooms : Int32) (v_o1_doors : Int32) (v_o1_needs : Int32) (v_o1_work : IA) (v_o1_coats : IA) (v_o1_beside : IA) (v_o1_needParts : IA) : va_W := [(a_this, .inr (2, [.ref a_tape, .ref a_parts, .int v_at])), (a_tape, .inr (8, [.ref a_tape_bytes, .int v_tape_length])), (a_tape_bytes, .inl (cy, 48, .inl v_tape_bytes)), (a_parts, .inl (cy, 4, .inl v_parts)), (a_o1, .inr (1, [.int v_o1_rooms, .int v_o1_doors, .int v_o1_needs, .ref a_o1_work, .ref a_o1_coats, .ref a_o1_beside, .ref a_o1_needParts])), (a_o1_work, .inl (cy, 6, .inl v_o1_work)), (a_o1_coats, .inl (cy, 6, .inl v_o1_coats)), (a_o1_beside, .inl (cy, 6, .inl v_o1_beside)), (a_o1_needParts, .inl (cy, 32, .inl v_o1_needParts))]
def wp_X2_read (v_tape_bytes : IA) (v_tape_length : Int32) (v_parts : IA) (v_at : Int32) (v_o1_rooms : Int32) (v_o1_doors : Int32) (v_o1_needs : Int32) (v_o1_work : IA) (v_o1_coats : IA) (v_o1_beside : IA) (v_o1_needParts : IA) (K : Int32 → IA → Int32 → Int32 → Int32 → Int32 → IA → IA → IA → IA → Prop) : Prop := wp_X2_firstStrayByte v_tape_bytes v_tape_length v_parts v_at (fun (r1 : Int32) (v_parts_2 : IA) (v_at_3 : Int32) => (r1 = (-9 : Int32) → wp_X2_takeStatements v_tape_bytes v_tape_length v_parts_2 v_at_3 v_o1_rooms v_o1_doors v_o1_needs v_o1_work v_o1_coats v_o1_beside v_o1_needParts (fun (r5 : Int32) (v_parts_6 : IA) (v_at_7 : Int32) (v_o1_rooms_8 : Int32) (v_o1_doors_9 : Int32) (v_o1_needs_10 : Int32) (v_o1_work_11 : IA) (v_o1_coats_12 : IA) (v_o1_beside_13 : IA) (v_o1_needParts_14 : IA) => K r5 v_parts_6 v_at_7 v_o1_rooms_8 v_o1_doors_9 v_o1_needs_10 v_o1_work_11 v_o1_coats_12 v_o1_beside_13 v_o1_needParts_14)) ∧ (¬ (r1 = (-9 : Int32)) → K ((-1000 : Int32) - r1) v_parts_2 v_at_3 v_o1_rooms v_o1_doors v_o1_needs v_o1_work v_o1_coats v_o1_beside v_o1_needParts))
set_option maxHeartbeats 4000000 in
set_option maxRecDepth 100000 in
theorem c_X2_read {l : Launch} {D : va_G} {cy : ClassId} {a_this a_tape a_tape_bytes a_parts a_o1 a_o1_work a_o1_coats a_o1_beside a_o1_needParts : Nat} {v_tape_bytes : IA} {v_tape_length : Int32} {v_parts : IA} {v_at : Int32} {v_o1_rooms : Int32} {v_o1_doors : Int32} {v_o1_needs : Int32} {v_o1_work : IA} {v_o1_coats : IA} {v_o1_beside : IA} {v_o1_needParts : IA} {K : Int32 → IA → Int32 → Int32 → Int32 → Int32 → IA → IA → IA → IA → Prop} : CtI l yX2_read wsX2_read { frames := 7, cells := 0, slots := 0, locals := 577 } 0 0 D cy [.ref a_this, .ref a_o1] (w_X2_read cy a_this a_tape a_tape_bytes a_parts a_o1 a_o1_work a_o1_coats a_o1_beside a_o1_needParts v_tape_bytes v_tape_length v_parts v_at v_o1_rooms v_o1_doors v_o1_needs v_o1_work v_o1_coats v_o1_beside v_o1_needParts) (wp_X2_read v_tape_bytes v_tape_length v_parts v_at v_o1_rooms v_o1_doors v_o1_needs v_o1_work v_o1_coats v_o1_beside v_o1_needParts K) (fun (u : IA × Int32 × Int32 × Int32 × Int32 × IA × IA × IA × IA) => (w_X2_read cy a_this a_tape a_tape_bytes a_parts a_o1 a_o1_work a_o1_coats a_o1_beside a_o1_needParts v_tape_bytes v_tape_length u.1 u.2.1 u.2.2.1 u.2.2.2.1 u.2.2.2.2.1 u.2.2.2.2.2.1 u.2.2.2.2.2.2.1 u.2.2.2.2.2.2.2.1 u.2.2.2.2.2.2.2.2)) (fun (r : Int32) (u : IA × Int32 × Int32 × Int32 × Int32 × IA × IA × IA × IA) => K r u.1 u.2.1 u.2.2.1 u.2.2.2.1 u.2.2.2.2.1 u.2.2.2.2.2.1 u.2.2.2.2.2.2.1 u.2.2.2.2.2.2.2.1 u.2.2.2.2.2.2.2.2) := by
  refine CtI.mk (cc := cX2_read) (nL := 3) (ty := .int) (by decide) rfl (Nat.le_of_ble_eq_true rfl) (fun r u h => rfl) ?_
  intro p e s m args below meth c A Q ha hr _ h ls hl hw
  have ha : am p s m args c cX2_read 3 RX2 wsX2_read D cy A := ha
  have hx := ha.1
  have hb := ha.2.1
  have hl : lv_has ls 3 [(0, .ref a_this), (1, .ref a_o1)] := hl
  have h : wp_X2_firstStrayByte v_tape_bytes v_tape_length v_parts v_at (fun (r1 : Int32) (v_parts_2 : IA) (v_at_3 : Int32) => (r1 = (-9 : Int32) → wp_X2_takeStatements v_tape_bytes v_tape_length v_parts_2 v_at_3 v_o1_rooms v_o1_doors v_o1_needs v_o1_work v_o1_coats v_o1_beside v_o1_needParts (fun (r5 : Int32) (v_parts_6 : IA) (v_at_7 : Int32) (v_o1_rooms_8 : Int32) (v_o1_doors_9 : Int32) (v_o1_needs_10 : Int32) (v_o1_work_11 : IA) (v_o1_coats_12 : IA) (v_o1_beside_13 : IA) (v_o1_needParts_14 : IA) => K r5 v_parts_6 v_at_7 v_o1_rooms_8 v_o1_doors_9 v_o1_needs_10 v_o1_work_11 v_o1_coats_12 v_o1_beside_13 v_o1_needParts_14)) ∧ (¬ (r1 = (-9 : Int32)) → K ((-1000 : Int32) - r1) v_parts_2 v_at_3 v_o1_rooms v_o1_doors v_o1_needs v_o1_work v_o1_coats v_o1_beside v_o1_needParts)) := h
  refine lv_aload_n hx hb dX2_read_0 rfl (lv_at hl 0 rfl) ?_
  refine g_cvi (rm := { frames := 6, cells := 0, slots := 0, locals := 490 }) (wn := (fun (u : IA × Int32) => (w_X2_read cy a_this a_tape a_tape_bytes a_parts a_o1 a_o1_work a_o1_coats a_o1_beside a_o1_needParts v_tape_bytes v_tape_length u.1 u.2 v_o1_rooms v_o1_doors v_o1_needs v_o1_work v_o1_coats v_o1_beside v_o1_needParts))) (As := []) ha hw hl.1 (c_X2_firstStrayByte (cy := cy)) (cwV 0 ha.2.2.2.2.1 gX2_read_X2_firstStrayByte rfl rfl rfl hq_X2_firstStrayByte ⟨Nat.le_of_ble_eq_true rfl, Nat.le_of_ble_eq_true rfl⟩) [0, 1, 2, 3] [4, 5, 6, 7, 8] [5, 6, 7, 8, 0, 1, 2, 3, 4] rfl rfl rfl rfl (by decide) rfl (fun _ => rfl) rfl rfl h rfl rfl (Nat.le_of_ble_eq_true rfl) dX2_read_1 ⟨Nat.le_refl _, Nat.le_refl _⟩ (fun r1 u H locs h hw => ?_)
  obtain ⟨v_parts_2, v_at_3⟩ := u
  have hw : wd D A s.heap (w_X2_read cy a_this a_tape a_tape_bytes a_parts a_o1 a_o1_work a_o1_coats a_o1_beside a_o1_needParts v_tape_bytes v_tape_length v_parts_2 v_at_3 v_o1_rooms v_o1_doors v_o1_needs v_o1_work v_o1_coats v_o1_beside v_o1_needParts) H locs := hw
  try dsimp only at h
  refine lv_istore_n (lv' := [(2, .int r1), (0, .ref a_this), (1, .ref a_o1)]) hx hb dX2_read_4 rfl hl (by decide) rfl (fun ls hl => ?_)
  refine lv_iload_n hx hb dX2_read_5 rfl (lv_at hl 0 rfl) ?_
  refine lv_bipush (v := (-9 : Int32)) hx hb dX2_read_6 (by decide) ?_
  refine lv_icmp_ne (tgt := 19) hx hb dX2_read_8 (by decide) (fun c4 => ?_) (fun c4 => ?_)
  · have h := h.2 c4
    refine lv_sipush (v := (-1000 : Int32)) hx hb dX2_read_19 (by decide) ?_
    refine lv_iload_n hx hb dX2_read_22 rfl (lv_at hl 0 rfl) ?_
    refine lv_isub hx hb dX2_read_23 ?_
    exact hr _ _ (v_parts_2, v_at_3, v_o1_rooms, v_o1_doors, v_o1_needs, v_o1_work, v_o1_coats, v_o1_beside, v_o1_needParts) _ _ _ dX2_read_24 h hw
  · have h := h.1 c4
    refine lv_aload_n hx hb dX2_read_11 rfl (lv_at hl 1 rfl) ?_
    refine lv_aload_n hx hb dX2_read_12 rfl (lv_at hl 2 rfl) ?_
    refine g_cvi (rm := { frames := 6, cells := 0, slots := 0, locals := 490 }) (wn := (fun (u : IA × Int32 × Int32 × Int32 × Int32 × IA × IA × IA × IA) => (w_X2_read cy a_this a_tape a_tape_bytes a_parts a_o1 a_o1_work a_o1_coats a_o1_beside a_o1_needParts v_tape_bytes v_tape_length u.1 u.2.1 u.2.2.1 u.2.2.2.1 u.2.2.2.2.1 u.2.2.2.2.2.1 u.2.2.2.2.2.2.1 u.2.2.2.2.2.2.2.1 u.2.2.2.2.2.2.2.2))) (As := [.ref a_o1]) ha hw hl.1 (c_X2_takeStatements (cy := cy)) (cwV 1 ha.2.2.2.2.1 gX2_read_X2_takeStatements rfl rfl rfl hq_X2_takeStatements ⟨Nat.le_of_ble_eq_true rfl, Nat.le_of_ble_eq_true rfl⟩) [0, 1, 2, 3, 4, 5, 6, 7, 8] [] [0, 1, 2, 3, 4, 5, 6, 7, 8] rfl rfl rfl rfl (by decide) rfl (fun _ => rfl) rfl rfl h rfl rfl (Nat.le_of_ble_eq_true rfl) dX2_read_13 ⟨Nat.le_refl _, Nat.le_refl _⟩ (fun r5 u H locs h hw => ?_)
    obtain ⟨v_parts_6, v_at_7, v_o1_rooms_8, v_o1_doors_9, v_o1_needs_10, v_o1_work_11, v_o1_coats_12, v_o1_beside_13, v_o1_needParts_14⟩ := u
    have hw : wd D A s.heap (w_X2_read cy a_this a_tape a_tape_bytes a_parts a_o1 a_o1_work a_o1_coats a_o1_beside a_o1_needParts v_tape_bytes v_tape_length v_parts_6 v_at_7 v_o1_rooms_8 v_o1_doors_9 v_o1_needs_10 v_o1_work_11 v_o1_coats_12 v_o1_beside_13 v_o1_needParts_14) H locs := hw
    try dsimp only at h
    refine lv_goto (tgt := 24) hx hb dX2_read_16 (by decide) ?_
    exact hr _ _ (v_parts_6, v_at_7, v_o1_rooms_8, v_o1_doors_9, v_o1_needs_10, v_o1_work_11, v_o1_coats_12, v_o1_beside_13, v_o1_needParts_14) _ _ _ dX2_read_24 h hw
