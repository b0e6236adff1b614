theorem hq_X5_become : yX5_become.cls = RX5 ∧ yX5_become.cls ≠ "java/lang/invoke/MethodHandle" ∧ yX5_become.cls ≠ "java/lang/invoke/VarHandle" ∧ (parseMethodDescriptor yX5_become.desc).map (fun d => d.parameters.length) = some 1 := by decide +kernel
def w_X5_become (cy : ClassId) (a_this a_rooms a_hours a_o1 a_o1_rooms a_o1_hours : Nat) (v_steps : Int32) (v_rooms : IA) (v_hours : IA) (v_o1_steps : Int32) (v_o1_rooms : IA) (v_o1_hours : IA) : va_W := [(a_this, .inr (5, [.int v_steps, .ref a_rooms, .ref a_hours])), (a_rooms, .inl (cy, 8, .inl v_rooms)), (a_hours, .inl (cy, 8, .inl v_hours)), (a_o1, .inr (5, [.int v_o1_steps, .ref a_o1_rooms, .ref a_o1_hours])), (a_o1_rooms, .inl (cy, 8, .inl v_o1_rooms)), (a_o1_hours, .inl (cy, 8, .inl v_o1_hours))]
theorem hi_X5_become_5 : ∀ w ∈ u_ws RX5 TX5 3, w ∈ wsX5_become := fun _ h => List.mem_cons_of_mem _ (List.mem_append_right _ h)
def wp_X5_become (v_steps : Int32) (v_rooms : IA) (v_hours : IA) (v_o1_steps : Int32) (v_o1_rooms : IA) (v_o1_hours : IA) (K : Int32 → IA → IA → Prop) : Prop := K v_o1_steps (va_cpy v_o1_rooms v_rooms 0 0 8) (va_cpy v_o1_hours v_hours 0 0 8)
set_option maxHeartbeats 4000000 in
set_option maxRecDepth 100000 in
theorem c_X5_become {l : Launch} {D : va_G} {cy : ClassId} {a_this a_rooms a_hours a_o1 a_o1_rooms a_o1_hours : Nat} {v_steps : Int32} {v_rooms : IA} {v_hours : IA} {v_o1_steps : Int32} {v_o1_rooms : IA} {v_o1_hours : IA} {K : Int32 → IA → IA → Prop} : CtV l yX5_become wsX5_become { frames := 1, cells := 0, slots := 0, locals := 64 } 0 0 D cy [.ref a_this, .ref a_o1] (w_X5_become cy a_this a_rooms a_hours a_o1 a_o1_rooms a_o1_hours v_steps v_rooms v_hours v_o1_steps v_o1_rooms v_o1_hours) (wp_X5_become v_steps v_rooms v_hours v_o1_steps v_o1_rooms v_o1_hours K) (fun (u : Int32 × IA × IA) => (w_X5_become cy a_this a_rooms a_hours a_o1 a_o1_rooms a_o1_hours u.1 u.2.1 u.2.2 v_o1_steps v_o1_rooms v_o1_hours)) (fun (u : Int32 × IA × IA) => K u.1 u.2.1 u.2.2) := by
  refine CtV.mk (cc := cX5_become) (nL := 2) (by decide) rfl (Nat.le_of_ble_eq_true rfl) ?_
  intro p e s m args below meth c A Q ha hr _ h ls hl hw
  have ha : am p s m args c cX5_become 2 RX5 wsX5_become D cy A := ha
  have hx := ha.1
  have hb := ha.2.1
  have hl : lv_has ls 2 [(0, .ref a_this), (1, .ref a_o1)] := hl
  have h : K v_o1_steps (va_cpy v_o1_rooms v_rooms 0 0 8) (va_cpy v_o1_hours v_hours 0 0 8) := h
  refine lv_aload_n hx hb dX5_become_0 rfl (lv_at hl 0 rfl) ?_
  refine lv_aload_n hx hb dX5_become_1 rfl (lv_at hl 1 rfl) ?_
  refine g_get (ci := 5) ha hw 3 0 rfl hi_X5_become_5 (by decide) (List.mem_of_getElem? (i := 1) rfl) rfl rfl dX5_become_2 ?_
  refine g_put (ci := 5) (wn := (w_X5_become cy a_this a_rooms a_hours a_o1 a_o1_rooms a_o1_hours v_o1_steps v_rooms v_hours v_o1_steps v_o1_rooms v_o1_hours)) ha hw 0 0 rfl hi_X5_become_5 tyX5_ok nmX5 (by decide) (List.mem_of_getElem? (i := 1) rfl) rfl rfl rfl rfl (Nat.le_of_ble_eq_true rfl) rfl dX5_become_5 (fun H locs hw => ?_)
  refine lv_aload_n hx hb dX5_become_8 rfl (lv_at hl 1 rfl) ?_
  refine g_get (ci := 5) ha hw 3 1 rfl hi_X5_become_5 (by decide) (List.mem_of_getElem? (i := 2) rfl) rfl rfl dX5_become_9 ?_
  refine lv_iconst (v := (0 : Int32)) hx hb dX5_become_12 (by decide) ?_
  refine lv_aload_n hx hb dX5_become_13 rfl (lv_at hl 0 rfl) ?_
  refine g_get (ci := 5) ha hw 0 1 rfl hi_X5_become_5 (by decide) (List.mem_of_getElem? (i := 2) rfl) rfl rfl dX5_become_14 ?_
  refine lv_iconst (v := (0 : Int32)) hx hb dX5_become_17 (by decide) ?_
  refine lv_bipush (v := (8 : Int32)) hx hb dX5_become_18 (by decide) ?_
  refine g_cpy (SP := 0) (DP := 0) (N := 8) (wn := (w_X5_become cy a_this a_rooms a_hours a_o1 a_o1_rooms a_o1_hours v_o1_steps (va_cpy v_o1_rooms v_rooms 0 0 8) v_hours v_o1_steps v_o1_rooms v_o1_hours)) ha hw hl.1 4 1 (List.mem_of_getElem? (i := 3) rfl) (List.mem_of_getElem? (i := 4) rfl) (List.mem_of_getElem? (i := 5) rfl) (List.mem_of_getElem? (i := 6) rfl) rfl rfl (by decide) (by decide) (by decide) (by decide) (by decide) (by decide) (by decide) (by decide) (Nat.le_of_ble_eq_true rfl) (Nat.le_of_ble_eq_true rfl) rfl dX5_become_20 (fun H locs hw => ?_)
  refine lv_aload_n hx hb dX5_become_23 rfl (lv_at hl 1 rfl) ?_
  refine g_get (ci := 5) ha hw 3 2 rfl hi_X5_become_5 (by decide) (List.mem_of_getElem? (i := 7) rfl) rfl rfl dX5_become_24 ?_
  refine lv_iconst (v := (0 : Int32)) hx hb dX5_become_27 (by decide) ?_
  refine lv_aload_n hx hb dX5_become_28 rfl (lv_at hl 0 rfl) ?_
  refine g_get (ci := 5) ha hw 0 2 rfl hi_X5_become_5 (by decide) (List.mem_of_getElem? (i := 7) rfl) rfl rfl dX5_become_29 ?_
  refine lv_iconst (v := (0 : Int32)) hx hb dX5_become_32 (by decide) ?_
  refine lv_bipush (v := (8 : Int32)) hx hb dX5_become_33 (by decide) ?_
  refine g_cpy (SP := 0) (DP := 0) (N := 8) (wn := (w_X5_become cy a_this a_rooms a_hours a_o1 a_o1_rooms a_o1_hours v_o1_steps (va_cpy v_o1_rooms v_rooms 0 0 8) (va_cpy v_o1_hours v_hours 0 0 8) v_o1_steps v_o1_rooms v_o1_hours)) ha hw hl.1 5 2 (List.mem_of_getElem? (i := 3) rfl) (List.mem_of_getElem? (i := 4) rfl) (List.mem_of_getElem? (i := 5) rfl) (List.mem_of_getElem? (i := 6) rfl) rfl rfl (by decide) (by decide) (by decide) (by decide) (by decide) (by decide) (by decide) (by decide) (Nat.le_of_ble_eq_true rfl) (Nat.le_of_ble_eq_true rfl) rfl dX5_become_35 (fun H locs hw => ?_)
  exact hr _ (v_o1_steps, va_cpy v_o1_rooms v_rooms 0 0 8, va_cpy v_o1_hours v_hours 0 0 8) _ _ _ dX5_become_38 h hw
theorem hq_X5_isFull : yX5_isFull.cls = RX5 ∧ yX5_isFull.cls ≠ "java/lang/invoke/MethodHandle" ∧ yX5_isFull.cls ≠ "java/lang/invoke/VarHandle" ∧ (parseMethodDescriptor yX5_isFull.desc).map (fun d => d.parameters.length) = some 0 := by decide +kernel
def w_X5_isFull (cy : ClassId) (a_this : Nat) (w_rooms w_hours : Value) (v_steps : Int32) : va_W := [(a_this, .inr (5, [.int v_steps, w_rooms, w_hours]))]
theorem hi_X5_isFull_5 : ∀ w ∈ u_ws RX5 TX5 3, w ∈ wsX5_isFull := fun _ h => List.mem_cons_of_mem _ (List.mem_append_right _ h)
def wp_X5_isFull (v_steps : Int32) (K : Int32 → Prop) : Prop := (v_steps < (8 : Int32) → K (0 : Int32)) ∧ (¬ (v_steps < (8 : Int32)) → K (1 : Int32))
set_option maxHeartbeats 4000000 in
set_option maxRecDepth 100000 in
theorem c_X5_isFull {l : Launch} {D : va_G} {cy : ClassId} {a_this : Nat} {w_rooms w_hours : Value} {v_steps : Int32} {K : Int32 → Prop} : CtI l yX5_isFull wsX5_isFull { frames := 1, cells := 0, slots := 0, locals := 64 } 0 0 D cy [.ref a_this] (w_X5_isFull cy a_this w_rooms w_hours v_steps) (wp_X5_isFull v_steps K) (fun (u : Unit) => (w_X5_isFull cy a_this w_rooms w_hours v_steps)) (fun (r : Int32) (u : Unit) => nz r ∧ K r) := by
  refine CtI.mk (cc := cX5_isFull) (nL := 1) (ty := .boolean) (by decide) rfl (Nat.le_of_ble_eq_true rfl) (fun r u h => h.1.nar) ?_
  intro p e s m args below meth c A Q ha hr _ h ls hl hw
  have ha : am p s m args c cX5_isFull 1 RX5 wsX5_isFull D cy A := ha
  have hx := ha.1
  have hb := ha.2.1
  have hl : lv_has ls 1 [(0, .ref a_this)] := hl
  have h : (v_steps < (8 : Int32) → K (0 : Int32)) ∧ (¬ (v_steps < (8 : Int32)) → K (1 : Int32)) := h
  refine lv_aload_n hx hb dX5_isFull_0 rfl (lv_at hl 0 rfl) ?_
  refine g_get (ci := 5) ha hw 0 0 rfl hi_X5_isFull_5 (by decide) (List.mem_of_getElem? (i := 1) rfl) rfl rfl dX5_isFull_1 ?_
  refine lv_bipush (v := (8 : Int32)) hx hb dX5_isFull_4 (by decide) ?_
  refine lv_icmp_lt (tgt := 13) hx hb dX5_isFull_6 (by decide) (fun c1 => ?_) (fun c1 => ?_)
  · have h := h.1 c1
    refine lv_iconst (v := (0 : Int32)) hx hb dX5_isFull_13 (by decide) ?_
    exact hr _ _ () _ _ _ dX5_isFull_14 ⟨nz0, h⟩ hw
  · have h := h.2 c1
    refine lv_iconst (v := (1 : Int32)) hx hb dX5_isFull_9 (by decide) ?_
    refine lv_goto (tgt := 14) hx hb dX5_isFull_10 (by decide) ?_
    exact hr _ _ () _ _ _ dX5_isFull_14 ⟨nz1, h⟩ hw
theorem hq_X5_append : yX5_append.cls = RX5 ∧ yX5_append.cls ≠ "java/lang/invoke/MethodHandle" ∧ yX5_append.cls ≠ "java/lang/invoke/VarHandle" ∧ (parseMethodDescriptor yX5_append.desc).map (fun d => d.parameters.length) = some 2 := by decide +kernel
def w_X5_append (cy : ClassId) (a_this a_rooms a_hours : Nat) (v_steps : Int32) (v_rooms : IA) (v_hours : IA) : va_W := [(a_this, .inr (5, [.int v_steps, .ref a_rooms, .ref a_hours])), (a_rooms, .inl (cy, 8, .inl v_rooms)), (a_hours, .inl (cy, 8, .inl v_hours))]
theorem hi_X5_append_5 : ∀ w ∈ u_ws RX5 TX5 3, w ∈ wsX5_append := fun _ h => List.mem_cons_of_mem _ (List.mem_append_right _ h)
def wp_X5_append (x1 : Int32) (x2 : Int32) (v_steps : Int32) (v_rooms : IA) (v_hours : IA) (K : Int32 → IA → IA → Prop) : Prop := ((8 : Int32) ≤ v_steps → K v_steps v_rooms v_hours) ∧ (¬ ((8 : Int32) ≤ v_steps) → vp_in v_steps 8 ∧ (K (v_steps + (1 : Int32)) (upd v_rooms v_steps.toNatClampNeg x1) (upd v_hours v_steps.toNatClampNeg x2)))
set_option maxHeartbeats 4000000 in
set_option maxRecDepth 100000 in
theorem c_X5_append {l : Launch} {D : va_G} {cy : ClassId} {a_this a_rooms a_hours : Nat} {v_steps : Int32} {v_rooms : IA} {v_hours : IA} {x1 : Int32} {x2 : Int32} {K : Int32 → IA → IA → Prop} : CtV l yX5_append wsX5_append { frames := 1, cells := 0, slots := 0, locals := 64 } 0 0 D cy [.ref a_this, .int x1, .int x2] (w_X5_append cy a_this a_rooms a_hours v_steps v_rooms v_hours) (wp_X5_append x1 x2 v_steps v_rooms v_hours K) (fun (u : Int32 × IA × IA) => (w_X5_append cy a_this a_rooms a_hours u.1 u.2.1 u.2.2)) (fun (u : Int32 × IA × IA) => K u.1 u.2.1 u.2.2) := by
  refine CtV.mk (cc := cX5_append) (nL := 3) (by decide) rfl (Nat.le_of_ble_eq_true rfl) ?_
  intro p e s m args below meth c A Q ha hr _ h ls hl hw
  have ha : am p s m args c cX5_append 3 RX5 wsX5_append D cy A := ha
  have hx := ha.1
  have hb := ha.2.1
  have hl : lv_has ls 3 [(0, .ref a_this), (1, .int x1), (2, .int x2)] := hl
  have h : ((8 : Int32) ≤ v_steps → K v_steps v_rooms v_hours) ∧ (¬ ((8 : Int32) ≤ v_steps) → vp_in v_steps 8 ∧ (K (v_steps + (1 : Int32)) (upd v_rooms v_steps.toNatClampNeg x1) (upd v_hours v_steps.toNatClampNeg x2))) := h
  refine lv_aload_n hx hb dX5_append_0 rfl (lv_at hl 0 rfl) ?_
  refine g_get (ci := 5) ha hw 0 0 rfl hi_X5_append_5 (by decide) (List.mem_of_getElem? (i := 1) rfl) rfl rfl dX5_append_1 ?_
  refine lv_bipush (v := (8 : Int32)) hx hb dX5_append_4 (by decide) ?_
  refine lv_icmp_ge (tgt := 39) hx hb dX5_append_6 (by decide) (fun c1 => ?_) (fun c1 => ?_)
  · have h := h.1 c1
    exact hr _ (v_steps, v_rooms, v_hours) _ _ _ dX5_append_39 h hw
  · have h := h.2 c1
    refine lv_aload_n hx hb dX5_append_9 rfl (lv_at hl 0 rfl) ?_
    refine g_get (ci := 5) ha hw 0 1 rfl hi_X5_append_5 (by decide) (List.mem_of_getElem? (i := 2) rfl) rfl rfl dX5_append_10 ?_
    refine lv_aload_n hx hb dX5_append_13 rfl (lv_at hl 0 rfl) ?_
    refine g_get (ci := 5) ha hw 0 0 rfl hi_X5_append_5 (by decide) (List.mem_of_getElem? (i := 1) rfl) rfl rfl dX5_append_14 ?_
    refine lv_iload_n hx hb dX5_append_17 rfl (lv_at hl 1 rfl) ?_
    obtain ⟨z2, h⟩ := h
    refine g_ast (wn := (w_X5_append cy a_this a_rooms a_hours v_steps (upd v_rooms v_steps.toNatClampNeg x1) v_hours)) ha hw 1 rfl z2 rfl dX5_append_18 (fun H locs hw => ?_)
    refine lv_aload_n hx hb dX5_append_19 rfl (lv_at hl 0 rfl) ?_
    refine g_get (ci := 5) ha hw 0 2 rfl hi_X5_append_5 (by decide) (List.mem_of_getElem? (i := 3) rfl) rfl rfl dX5_append_20 ?_
    refine lv_aload_n hx hb dX5_append_23 rfl (lv_at hl 0 rfl) ?_
    refine g_get (ci := 5) ha hw 0 0 rfl hi_X5_append_5 (by decide) (List.mem_of_getElem? (i := 1) rfl) rfl rfl dX5_append_24 ?_
    refine lv_iload_n hx hb dX5_append_27 rfl (lv_at hl 2 rfl) ?_
    refine g_ast (wn := (w_X5_append cy a_this a_rooms a_hours v_steps (upd v_rooms v_steps.toNatClampNeg x1) (upd v_hours v_steps.toNatClampNeg x2))) ha hw 2 rfl z2 rfl dX5_append_28 (fun H locs hw => ?_)
    refine lv_aload_n hx hb dX5_append_29 rfl (lv_at hl 0 rfl) ?_
    refine lv_dup hx hb dX5_append_30 rfl ?_
    refine g_get (ci := 5) ha hw 0 0 rfl hi_X5_append_5 (by decide) (List.mem_of_getElem? (i := 1) rfl) rfl rfl dX5_append_31 ?_
    refine lv_iconst (v := (1 : Int32)) hx hb dX5_append_34 (by decide) ?_
    refine lv_iadd hx hb dX5_append_35 ?_
    refine g_put (ci := 5) (wn := (w_X5_append cy a_this a_rooms a_hours (v_steps + (1 : Int32)) (upd v_rooms v_steps.toNatClampNeg x1) (upd v_hours v_steps.toNatClampNeg x2))) ha hw 0 0 rfl hi_X5_append_5 tyX5_ok nmX5 (by decide) (List.mem_of_getElem? (i := 1) rfl) rfl rfl rfl rfl (Nat.le_of_ble_eq_true rfl) rfl dX5_append_36 (fun H locs hw => ?_)
    exact hr _ (v_steps + (1 : Int32), upd v_rooms v_steps.toNatClampNeg x1, upd v_hours v_steps.toNatClampNeg x2) _ _ _ dX5_append_39 h hw
theorem hq_X5_shorten : yX5_shorten.cls = RX5 ∧ yX5_shorten.cls ≠ "java/lang/invoke/MethodHandle" ∧ yX5_shorten.cls ≠ "java/lang/invoke/VarHandle" ∧ (parseMethodDescriptor yX5_shorten.desc).map (fun d => d.parameters.length) = some 1 := by decide +kernel
def w_X5_shorten (cy : ClassId) (a_this : Nat) (w_rooms w_hours : Value) (v_steps : Int32) : va_W := [(a_this, .inr (5, [.int v_steps, w_rooms, w_hours]))]
theorem hi_X5_shorten_5 : ∀ w ∈ u_ws RX5 TX5 3, w ∈ wsX5_shorten := fun _ h => List.mem_cons_of_mem _ (List.mem_append_right _ h)
def wp_X5_shorten (x1 : Int32) (v_steps : Int32) (K : Int32 → Prop) : Prop := (x1 < 0 → K v_steps) ∧ (¬ (x1 < 0) → (v_steps ≤ x1 → K v_steps) ∧ (¬ (v_steps ≤ x1) → K x1))
set_option maxHeartbeats 4000000 in
set_option maxRecDepth 100000 in
theorem c_X5_shorten {l : Launch} {D : va_G} {cy : ClassId} {a_this : Nat} {w_rooms w_hours : Value} {v_steps : Int32} {x1 : Int32} {K : Int32 → Prop} : CtV l yX5_shorten wsX5_shorten { frames := 1, cells := 0, slots := 0, locals := 64 } 0 0 D cy [.ref a_this, .int x1] (w_X5_shorten cy a_this w_rooms w_hours v_steps) (wp_X5_shorten x1 v_steps K) (fun (u : Int32) => (w_X5_shorten cy a_this w_rooms w_hours u)) (fun (u : Int32) => K u) := by
  refine CtV.mk (cc := cX5_shorten) (nL := 2) (by decide) rfl (Nat.le_of_ble_eq_true rfl) ?_
  intro p e s m args below meth c A Q ha hr _ h ls hl hw
  have ha : am p s m args c cX5_shorten 2 RX5 wsX5_shorten D cy A := ha
  have hx := ha.1
  have hb := ha.2.1
  have hl : lv_has ls 2 [(0, .ref a_this), (1, .int x1)] := hl
  have h : (x1 < 0 → K v_steps) ∧ (¬ (x1 < 0) → (v_steps ≤ x1 → K v_steps) ∧ (¬ (v_steps ≤ x1) → K x1)) := h
  refine lv_iload_n hx hb dX5_shorten_0 rfl (lv_at hl 1 rfl) ?_
  refine lv_if_lt (tgt := 17) hx hb dX5_shorten_1 (by decide) (fun c1 => ?_) (fun c1 => ?_)
  · have h := h.1 c1
    exact hr _ (v_steps) _ _ _ dX5_shorten_17 h hw
  · have h := h.2 c1
    refine lv_iload_n hx hb dX5_shorten_4 rfl (lv_at hl 1 rfl) ?_
    refine lv_aload_n hx hb dX5_shorten_5 rfl (lv_at hl 0 rfl) ?_
    refine g_get (ci := 5) ha hw 0 0 rfl hi_X5_shorten_5 (by decide) (List.mem_of_getElem? (i := 1) rfl) rfl rfl dX5_shorten_6 ?_
    refine lv_icmp_ge (tgt := 17) hx hb dX5_shorten_9 (by decide) (fun c2 => ?_) (fun c2 => ?_)
    · have h := h.1 c2
      exact hr _ (v_steps) _ _ _ dX5_shorten_17 h hw
    · have h := h.2 c2
      refine lv_aload_n hx hb dX5_shorten_12 rfl (lv_at hl 0 rfl) ?_
      refine lv_iload_n hx hb dX5_shorten_13 rfl (lv_at hl 1 rfl) ?_
      refine g_put (ci := 5) (wn := (w_X5_shorten cy a_this w_rooms w_hours x1)) ha hw 0 0 rfl hi_X5_shorten_5 tyX5_ok nmX5 (by decide) (List.mem_of_getElem? (i := 1) rfl) rfl rfl rfl rfl (Nat.le_of_ble_eq_true rfl) rfl dX5_shorten_14 (fun H locs hw => ?_)
      exact hr _ (x1) _ _ _ dX5_shorten_17 h hw
