theorem hq_X11_stepOf : yX11_stepOf.cls = RX11 ∧ yX11_stepOf.cls ≠ "java/lang/invoke/MethodHandle" ∧ yX11_stepOf.cls ≠ "java/lang/invoke/VarHandle" ∧ (parseMethodDescriptor yX11_stepOf.desc).map (fun d => d.parameters.length) = some 2 := by decide +kernel
def w_X11_stepOf (cy : ClassId) (a_this a_refusals a_s : Nat) (w_image w_read w_tape w_told w_met w_best w_kept w_squares w_far w_queue : Value) (v_refusals : IA) (v_s : IA) (v_isImage : Int32) (v_taped : Int32) (v_at : Int32) (v_wrongHour : Int32) (v_wrongThing : Int32) (v_soonest : Int32) (v_bestSteps : Int32) : va_W := [(a_this, .inr (11, [.ref a_refusals, .ref a_s, w_image, w_read, .int v_isImage, w_tape, w_told, .int v_taped, .int v_at, w_met, .int v_wrongHour, .int v_wrongThing, w_best, w_kept, .int v_soonest, .int v_bestSteps, w_squares, w_far, w_queue])), (a_refusals, .inl (cy, 7, .inl v_refusals)), (a_s, .inl (cy, 120, .inl v_s))]
theorem hi_X11_stepOf_11 : ∀ w ∈ u_ws RX11 TX11 19, w ∈ wsX11_stepOf := fun _ h => List.mem_cons_of_mem _ (List.mem_append_right _ h)
def wp_X11_stepOf (x1 : Int32) (x2 : Int32) (v_refusals : IA) (v_s : IA) (K : Int32 → IA → Prop) : Prop := wp_X11_isIn x1 (v_s (3 : Int32).toNatClampNeg) (fun (r1 : Int32) => (r1 = 0 → wp_X11_refuse (-1 : Int32) v_refusals (fun (r8 : Int32) (v_refusals_9 : IA) => K r8 v_refusals_9)) ∧ (¬ (r1 = 0) → wp_X11_isIn x2 (2 : Int32) (fun (r3 : Int32) => (r3 = 0 → wp_X11_refuse (-2 : Int32) v_refusals (fun (r5 : Int32) (v_refusals_6 : IA) => K r5 v_refusals_6)) ∧ (¬ (r3 = 0) → vp_in (((77 : Int32) + ((2 : Int32) * x1)) + x2) 120 ∧ (K (v_s (((77 : Int32) + ((2 : Int32) * x1)) + x2).toNatClampNeg) v_refusals)))))
set_option maxHeartbeats 4000000 in
set_option maxRecDepth 100000 in
theorem c_X11_stepOf {l : Launch} {D : va_G} {cy : ClassId} {a_this a_refusals a_s : Nat} {w_image w_read w_tape w_told w_met w_best w_kept w_squares w_far w_queue : Value} {v_refusals : IA} {v_s : IA} {v_isImage : Int32} {v_taped : Int32} {v_at : Int32} {v_wrongHour : Int32} {v_wrongThing : Int32} {v_soonest : Int32} {v_bestSteps : Int32} {x1 : Int32} {x2 : Int32} {K : Int32 → IA → Prop} : CtI l yX11_stepOf wsX11_stepOf { frames := 2, cells := 0, slots := 0, locals := 149 } 0 0 D cy [.ref a_this, .int x1, .int x2] (w_X11_stepOf cy a_this a_refusals a_s w_image w_read w_tape w_told w_met w_best w_kept w_squares w_far w_queue v_refusals v_s v_isImage v_taped v_at v_wrongHour v_wrongThing v_soonest v_bestSteps) (wp_X11_stepOf x1 x2 v_refusals v_s K) (fun (u : IA) => (w_X11_stepOf cy a_this a_refusals a_s w_image w_read w_tape w_told w_met w_best w_kept w_squares w_far w_queue u v_s v_isImage v_taped v_at v_wrongHour v_wrongThing v_soonest v_bestSteps)) (fun (r : Int32) (u : IA) => K r u) := by
  refine CtI.mk (cc := cX11_stepOf) (nL := 3) (ty := .int) (by decide) rfl (Nat.le_of_ble_eq_true rfl) (fun r u h => rfl) ?_
  intro p e s m args below meth c A Q ha hr _ h ls hl hw
  have ha : am p s m args c cX11_stepOf 3 RX11 wsX11_stepOf D cy A := ha
  have hx := ha.1
  have hb := ha.2.1
  have hl : lv_has ls 3 [(0, .ref a_this), (1, .int x1), (2, .int x2)] := hl
  have h : wp_X11_isIn x1 (v_s (3 : Int32).toNatClampNeg) (fun (r1 : Int32) => (r1 = 0 → wp_X11_refuse (-1 : Int32) v_refusals (fun (r8 : Int32) (v_refusals_9 : IA) => K r8 v_refusals_9)) ∧ (¬ (r1 = 0) → wp_X11_isIn x2 (2 : Int32) (fun (r3 : Int32) => (r3 = 0 → wp_X11_refuse (-2 : Int32) v_refusals (fun (r5 : Int32) (v_refusals_6 : IA) => K r5 v_refusals_6)) ∧ (¬ (r3 = 0) → vp_in (((77 : Int32) + ((2 : Int32) * x1)) + x2) 120 ∧ (K (v_s (((77 : Int32) + ((2 : Int32) * x1)) + x2).toNatClampNeg) v_refusals))))) := h
  refine lv_iload_n hx hb dX11_stepOf_0 rfl (lv_at hl 1 rfl) ?_
  refine lv_aload_n hx hb dX11_stepOf_1 rfl (lv_at hl 0 rfl) ?_
  refine g_get (ci := 11) ha hw 0 1 rfl hi_X11_stepOf_11 (by decide) (List.mem_of_getElem? (i := 1) rfl) rfl rfl dX11_stepOf_2 ?_
  refine lv_iconst (v := (3 : Int32)) hx hb dX11_stepOf_5 (by decide) ?_
  refine g_ald ha hw 2 rfl (vp_in_iff.mpr (by decide)) dX11_stepOf_6 ?_
  refine g_csi (rm := { frames := 1, cells := 0, slots := 0, locals := 64 }) (wn := (fun (u : Unit) => (w_X11_stepOf cy a_this a_refusals a_s w_image w_read w_tape w_told w_met w_best w_kept w_squares w_far w_queue v_refusals v_s v_isImage v_taped v_at v_wrongHour v_wrongThing v_soonest v_bestSteps))) (As := [.int x1, .int (v_s (3 : Int32).toNatClampNeg)]) ha hw hl.1 (c_X11_isIn (cy := cy)) (va_cwS 2 ha.2.2.2.2.1 gX11_stepOf_X11_isIn rfl rfl rfl hq_X11_isIn ⟨Nat.le_of_ble_eq_true rfl, Nat.le_of_ble_eq_true rfl⟩) [] [0, 1, 2] [0, 1, 2] rfl rfl rfl rfl (by decide) rfl (fun _ => rfl) h rfl rfl (Nat.le_of_ble_eq_true rfl) dX11_stepOf_7 ⟨Nat.le_refl _, Nat.le_refl _⟩ (fun r1 u H locs h hw => ?_)
  have hw : wd D A s.heap (w_X11_stepOf cy a_this a_refusals a_s w_image w_read w_tape w_told w_met w_best w_kept w_squares w_far w_queue v_refusals v_s v_isImage v_taped v_at v_wrongHour v_wrongThing v_soonest v_bestSteps) H locs := hw
  obtain ⟨zr1, h⟩ := h
  try dsimp only at h
  refine lv_if_ne (tgt := 21) hx hb dX11_stepOf_10 (by decide) (fun c2 => ?_) (fun c2 => ?_)
  · have h := h.2 c2
    refine lv_iload_n hx hb dX11_stepOf_21 rfl (lv_at hl 2 rfl) ?_
    refine lv_iconst (v := (2 : Int32)) hx hb dX11_stepOf_22 (by decide) ?_
    refine g_csi (rm := { frames := 1, cells := 0, slots := 0, locals := 64 }) (wn := (fun (u : Unit) => (w_X11_stepOf cy a_this a_refusals a_s w_image w_read w_tape w_told w_met w_best w_kept w_squares w_far w_queue v_refusals v_s v_isImage v_taped v_at v_wrongHour v_wrongThing v_soonest v_bestSteps))) (As := [.int x2, .int (2 : Int32)]) ha hw hl.1 (c_X11_isIn (cy := cy)) (va_cwS 2 ha.2.2.2.2.1 gX11_stepOf_X11_isIn rfl rfl rfl hq_X11_isIn ⟨Nat.le_of_ble_eq_true rfl, Nat.le_of_ble_eq_true rfl⟩) [] [0, 1, 2] [0, 1, 2] rfl rfl rfl rfl (by decide) rfl (fun _ => rfl) h rfl rfl (Nat.le_of_ble_eq_true rfl) dX11_stepOf_23 ⟨Nat.le_refl _, Nat.le_refl _⟩ (fun r3 u H locs h hw => ?_)
    have hw : wd D A s.heap (w_X11_stepOf cy a_this a_refusals a_s w_image w_read w_tape w_told w_met w_best w_kept w_squares w_far w_queue v_refusals v_s v_isImage v_taped v_at v_wrongHour v_wrongThing v_soonest v_bestSteps) H locs := hw
    obtain ⟨zr3, h⟩ := h
    try dsimp only at h
    refine lv_if_eq (tgt := 45) hx hb dX11_stepOf_26 (by decide) (fun c4 => ?_) (fun c4 => ?_)
    · have h := h.1 c4
      refine lv_aload_n hx hb dX11_stepOf_45 rfl (lv_at hl 0 rfl) ?_
      refine lv_bipush (v := (-2 : Int32)) hx hb dX11_stepOf_46 (by decide) ?_
      refine g_cvi (rm := { frames := 1, cells := 0, slots := 0, locals := 64 }) (wn := (fun (u : IA) => (w_X11_stepOf cy a_this a_refusals a_s w_image w_read w_tape w_told w_met w_best w_kept w_squares w_far w_queue u v_s v_isImage v_taped v_at v_wrongHour v_wrongThing v_soonest v_bestSteps))) (As := [.int (-2 : Int32)]) ha hw hl.1 (c_X11_refuse (cy := cy)) (cwV 1 ha.2.2.2.2.1 gX11_stepOf_X11_refuse rfl rfl rfl hq_X11_refuse ⟨Nat.le_of_ble_eq_true rfl, Nat.le_of_ble_eq_true rfl⟩) [0, 1] [2] [1, 2, 0] rfl rfl rfl rfl (by decide) rfl (fun _ => rfl) rfl rfl h rfl rfl (Nat.le_of_ble_eq_true rfl) dX11_stepOf_48 ⟨Nat.le_refl _, Nat.le_refl _⟩ (fun r5 u H locs h hw => ?_)
      obtain ⟨v_refusals_6, rfl⟩ : ∃ z, z = u := ⟨_, rfl⟩
      have hw : wd D A s.heap (w_X11_stepOf cy a_this a_refusals a_s w_image w_read w_tape w_told w_met w_best w_kept w_squares w_far w_queue v_refusals_6 v_s v_isImage v_taped v_at v_wrongHour v_wrongThing v_soonest v_bestSteps) H locs := hw
      try dsimp only at h
      exact hr _ _ (v_refusals_6) _ _ _ dX11_stepOf_51 h hw
    · have h := h.2 c4
      refine lv_aload_n hx hb dX11_stepOf_29 rfl (lv_at hl 0 rfl) ?_
      refine g_get (ci := 11) ha hw 0 1 rfl hi_X11_stepOf_11 (by decide) (List.mem_of_getElem? (i := 1) rfl) rfl rfl dX11_stepOf_30 ?_
      refine lv_bipush (v := (77 : Int32)) hx hb dX11_stepOf_33 (by decide) ?_
      refine lv_iconst (v := (2 : Int32)) hx hb dX11_stepOf_35 (by decide) ?_
      refine lv_iload_n hx hb dX11_stepOf_36 rfl (lv_at hl 1 rfl) ?_
      refine lv_imul hx hb dX11_stepOf_37 ?_
      refine lv_iadd hx hb dX11_stepOf_38 ?_
      refine lv_iload_n hx hb dX11_stepOf_39 rfl (lv_at hl 2 rfl) ?_
      refine lv_iadd hx hb dX11_stepOf_40 ?_
      obtain ⟨z7, h⟩ := h
      refine g_ald ha hw 2 rfl z7 dX11_stepOf_41 ?_
      refine lv_goto (tgt := 51) hx hb dX11_stepOf_42 (by decide) ?_
      exact hr _ _ (v_refusals) _ _ _ dX11_stepOf_51 h hw
  · have h := h.1 c2
    refine lv_aload_n hx hb dX11_stepOf_13 rfl (lv_at hl 0 rfl) ?_
    refine lv_iconst (v := (-1 : Int32)) hx hb dX11_stepOf_14 (by decide) ?_
    refine g_cvi (rm := { frames := 1, cells := 0, slots := 0, locals := 64 }) (wn := (fun (u : IA) => (w_X11_stepOf cy a_this a_refusals a_s w_image w_read w_tape w_told w_met w_best w_kept w_squares w_far w_queue u v_s v_isImage v_taped v_at v_wrongHour v_wrongThing v_soonest v_bestSteps))) (As := [.int (-1 : Int32)]) ha hw hl.1 (c_X11_refuse (cy := cy)) (cwV 1 ha.2.2.2.2.1 gX11_stepOf_X11_refuse rfl rfl rfl hq_X11_refuse ⟨Nat.le_of_ble_eq_true rfl, Nat.le_of_ble_eq_true rfl⟩) [0, 1] [2] [1, 2, 0] rfl rfl rfl rfl (by decide) rfl (fun _ => rfl) rfl rfl h rfl rfl (Nat.le_of_ble_eq_true rfl) dX11_stepOf_15 ⟨Nat.le_refl _, Nat.le_refl _⟩ (fun r8 u H locs h hw => ?_)
    obtain ⟨v_refusals_9, rfl⟩ : ∃ z, z = u := ⟨_, rfl⟩
    have hw : wd D A s.heap (w_X11_stepOf cy a_this a_refusals a_s w_image w_read w_tape w_told w_met w_best w_kept w_squares w_far w_queue v_refusals_9 v_s v_isImage v_taped v_at v_wrongHour v_wrongThing v_soonest v_bestSteps) H locs := hw
    try dsimp only at h
    refine lv_goto (tgt := 51) hx hb dX11_stepOf_18 (by decide) ?_
    exact hr _ _ (v_refusals_9) _ _ _ dX11_stepOf_51 h hw
theorem hq_X11_clear : yX11_clear.cls = RX11 ∧ yX11_clear.cls ≠ "java/lang/invoke/MethodHandle" ∧ yX11_clear.cls ≠ "java/lang/invoke/VarHandle" ∧ (parseMethodDescriptor yX11_clear.desc).map (fun d => d.parameters.length) = some 0 := by decide +kernel
def w_X11_clear (cy : ClassId) (a_this a_s : Nat) (w_refusals w_image w_read w_tape w_told w_met w_best w_kept w_squares w_far w_queue : Value) (v_s : IA) (v_isImage : Int32) (v_taped : Int32) (v_at : Int32) (v_wrongHour : Int32) (v_wrongThing : Int32) (v_soonest : Int32) (v_bestSteps : Int32) : va_W := [(a_this, .inr (11, [w_refusals, .ref a_s, w_image, w_read, .int v_isImage, w_tape, w_told, .int v_taped, .int v_at, w_met, .int v_wrongHour, .int v_wrongThing, w_best, w_kept, .int v_soonest, .int v_bestSteps, w_squares, w_far, w_queue])), (a_s, .inl (cy, 120, .inl v_s))]
theorem hi_X11_clear_11 : ∀ w ∈ u_ws RX11 TX11 19, w ∈ wsX11_clear := fun _ h => List.mem_cons_of_mem _ (List.mem_append_right _ h)
def wp_X11_clear (v_s : IA) (K : Int32 → IA → Prop) : Prop := ∀ x1_1 : Int32, x1_1 = v_s (3 : Int32).toNatClampNeg → K x1_1 (upd v_s (3 : Int32).toNatClampNeg (0 : Int32))
set_option maxHeartbeats 4000000 in
set_option maxRecDepth 100000 in
theorem c_X11_clear {l : Launch} {D : va_G} {cy : ClassId} {a_this a_s : Nat} {w_refusals w_image w_read w_tape w_told w_met w_best w_kept w_squares w_far w_queue : Value} {v_s : IA} {v_isImage : Int32} {v_taped : Int32} {v_at : Int32} {v_wrongHour : Int32} {v_wrongThing : Int32} {v_soonest : Int32} {v_bestSteps : Int32} {K : Int32 → IA → Prop} : CtI l yX11_clear wsX11_clear { frames := 1, cells := 0, slots := 0, locals := 64 } 0 0 D cy [.ref a_this] (w_X11_clear cy a_this a_s w_refusals w_image w_read w_tape w_told w_met w_best w_kept w_squares w_far w_queue v_s v_isImage v_taped v_at v_wrongHour v_wrongThing v_soonest v_bestSteps) (wp_X11_clear v_s K) (fun (u : IA) => (w_X11_clear cy a_this a_s w_refusals w_image w_read w_tape w_told w_met w_best w_kept w_squares w_far w_queue u v_isImage v_taped v_at v_wrongHour v_wrongThing v_soonest v_bestSteps)) (fun (r : Int32) (u : IA) => K r u) := by
  refine CtI.mk (cc := cX11_clear) (nL := 2) (ty := .int) (by decide) rfl (Nat.le_of_ble_eq_true rfl) (fun r u h => rfl) ?_
  intro p e s m args below meth c A Q ha hr _ h ls hl hw
  have ha : am p s m args c cX11_clear 2 RX11 wsX11_clear D cy A := ha
  have hx := ha.1
  have hb := ha.2.1
  have hl : lv_has ls 2 [(0, .ref a_this)] := hl
  have h : ∀ x1_1 : Int32, x1_1 = v_s (3 : Int32).toNatClampNeg → K x1_1 (upd v_s (3 : Int32).toNatClampNeg (0 : Int32)) := h
  refine lv_aload_n hx hb dX11_clear_0 rfl (lv_at hl 0 rfl) ?_
  refine g_get (ci := 11) ha hw 0 1 rfl hi_X11_clear_11 (by decide) (List.mem_of_getElem? (i := 1) rfl) rfl rfl dX11_clear_1 ?_
  refine lv_iconst (v := (3 : Int32)) hx hb dX11_clear_4 (by decide) ?_
  refine g_ald ha hw 1 rfl (vp_in_iff.mpr (by decide)) dX11_clear_5 ?_
  refine lv_topi (fun x1_1 ex1_1 => ?_)
  have h := h x1_1 ex1_1
  refine lv_istore_n (lv' := [(1, .int x1_1), (0, .ref a_this)]) hx hb dX11_clear_6 rfl hl (by decide) rfl (fun ls hl => ?_)
  refine lv_aload_n hx hb dX11_clear_7 rfl (lv_at hl 1 rfl) ?_
  refine g_get (ci := 11) ha hw 0 1 rfl hi_X11_clear_11 (by decide) (List.mem_of_getElem? (i := 1) rfl) rfl rfl dX11_clear_8 ?_
  refine lv_iconst (v := (3 : Int32)) hx hb dX11_clear_11 (by decide) ?_
  refine lv_iconst (v := (0 : Int32)) hx hb dX11_clear_12 (by decide) ?_
  refine g_ast (wn := (w_X11_clear cy a_this a_s w_refusals w_image w_read w_tape w_told w_met w_best w_kept w_squares w_far w_queue (upd v_s (3 : Int32).toNatClampNeg (0 : Int32)) v_isImage v_taped v_at v_wrongHour v_wrongThing v_soonest v_bestSteps)) ha hw 1 rfl (vp_in_iff.mpr (by decide)) rfl dX11_clear_13 (fun H locs hw => ?_)
  refine lv_iload_n hx hb dX11_clear_14 rfl (lv_at hl 0 rfl) ?_
  exact hr _ _ (upd v_s (3 : Int32).toNatClampNeg (0 : Int32)) _ _ _ dX11_clear_15 h hw
theorem hq_X11_roomOf : yX11_roomOf.cls = RX11 ∧ yX11_roomOf.cls ≠ "java/lang/invoke/MethodHandle" ∧ yX11_roomOf.cls ≠ "java/lang/invoke/VarHandle" ∧ (parseMethodDescriptor yX11_roomOf.desc).map (fun d => d.parameters.length) = some 1 := by decide +kernel
def w_X11_roomOf (cy : ClassId) (a_this a_s : Nat) (w_refusals w_image w_read w_tape w_told w_met w_best w_kept w_squares w_far w_queue : Value) (v_s : IA) (v_isImage : Int32) (v_taped : Int32) (v_at : Int32) (v_wrongHour : Int32) (v_wrongThing : Int32) (v_soonest : Int32) (v_bestSteps : Int32) : va_W := [(a_this, .inr (11, [w_refusals, .ref a_s, w_image, w_read, .int v_isImage, w_tape, w_told, .int v_taped, .int v_at, w_met, .int v_wrongHour, .int v_wrongThing, w_best, w_kept, .int v_soonest, .int v_bestSteps, w_squares, w_far, w_queue])), (a_s, .inl (cy, 120, .inl v_s))]
theorem hi_X11_roomOf_11 : ∀ w ∈ u_ws RX11 TX11 19, w ∈ wsX11_roomOf := fun _ h => List.mem_cons_of_mem _ (List.mem_append_right _ h)
def wp_X11_roomOf (x1 : Int32) (v_s : IA) (K : Int32 → Prop) : Prop := vp_in ((77 : Int32) + ((2 : Int32) * x1)) 120 ∧ (K (v_s ((77 : Int32) + ((2 : Int32) * x1)).toNatClampNeg))
set_option maxHeartbeats 4000000 in
set_option maxRecDepth 100000 in
theorem c_X11_roomOf {l : Launch} {D : va_G} {cy : ClassId} {a_this a_s : Nat} {w_refusals w_image w_read w_tape w_told w_met w_best w_kept w_squares w_far w_queue : Value} {v_s : IA} {v_isImage : Int32} {v_taped : Int32} {v_at : Int32} {v_wrongHour : Int32} {v_wrongThing : Int32} {v_soonest : Int32} {v_bestSteps : Int32} {x1 : Int32} {K : Int32 → Prop} : CtI l yX11_roomOf wsX11_roomOf { frames := 1, cells := 0, slots := 0, locals := 64 } 0 0 D cy [.ref a_this, .int x1] (w_X11_roomOf cy a_this a_s w_refusals w_image w_read w_tape w_told w_met w_best w_kept w_squares w_far w_queue v_s v_isImage v_taped v_at v_wrongHour v_wrongThing v_soonest v_bestSteps) (wp_X11_roomOf x1 v_s K) (fun (u : Unit) => (w_X11_roomOf cy a_this a_s w_refusals w_image w_read w_tape w_told w_met w_best w_kept w_squares w_far w_queue v_s v_isImage v_taped v_at v_wrongHour v_wrongThing v_soonest v_bestSteps)) (fun (r : Int32) (u : Unit) => K r) := by
  refine CtI.mk (cc := cX11_roomOf) (nL := 2) (ty := .int) (by decide) rfl (Nat.le_of_ble_eq_true rfl) (fun r u h => rfl) ?_
  intro p e s m args below meth c A Q ha hr _ h ls hl hw
  have ha : am p s m args c cX11_roomOf 2 RX11 wsX11_roomOf D cy A := ha
  have hx := ha.1
  have hb := ha.2.1
  have hl : lv_has ls 2 [(0, .ref a_this), (1, .int x1)] := hl
  have h : vp_in ((77 : Int32) + ((2 : Int32) * x1)) 120 ∧ (K (v_s ((77 : Int32) + ((2 : Int32) * x1)).toNatClampNeg)) := h
  refine lv_aload_n hx hb dX11_roomOf_0 rfl (lv_at hl 0 rfl) ?_
  refine g_get (ci := 11) ha hw 0 1 rfl hi_X11_roomOf_11 (by decide) (List.mem_of_getElem? (i := 1) rfl) rfl rfl dX11_roomOf_1 ?_
  refine lv_bipush (v := (77 : Int32)) hx hb dX11_roomOf_4 (by decide) ?_
  refine lv_iconst (v := (2 : Int32)) hx hb dX11_roomOf_6 (by decide) ?_
  refine lv_iload_n hx hb dX11_roomOf_7 rfl (lv_at hl 1 rfl) ?_
  refine lv_imul hx hb dX11_roomOf_8 ?_
  refine lv_iadd hx hb dX11_roomOf_9 ?_
  obtain ⟨z1, h⟩ := h
  refine g_ald ha hw 1 rfl z1 dX11_roomOf_10 ?_
  exact hr _ _ () _ _ _ dX11_roomOf_11 h hw
theorem hq_X11_hourOf : yX11_hourOf.cls = RX11 ∧ yX11_hourOf.cls ≠ "java/lang/invoke/MethodHandle" ∧ yX11_hourOf.cls ≠ "java/lang/invoke/VarHandle" ∧ (parseMethodDescriptor yX11_hourOf.desc).map (fun d => d.parameters.length) = some 1 := by decide +kernel
def w_X11_hourOf (cy : ClassId) (a_this a_s : Nat) (w_refusals w_image w_read w_tape w_told w_met w_best w_kept w_squares w_far w_queue : Value) (v_s : IA) (v_isImage : Int32) (v_taped : Int32) (v_at : Int32) (v_wrongHour : Int32) (v_wrongThing : Int32) (v_soonest : Int32) (v_bestSteps : Int32) : va_W := [(a_this, .inr (11, [w_refusals, .ref a_s, w_image, w_read, .int v_isImage, w_tape, w_told, .int v_taped, .int v_at, w_met, .int v_wrongHour, .int v_wrongThing, w_best, w_kept, .int v_soonest, .int v_bestSteps, w_squares, w_far, w_queue])), (a_s, .inl (cy, 120, .inl v_s))]
theorem hi_X11_hourOf_11 : ∀ w ∈ u_ws RX11 TX11 19, w ∈ wsX11_hourOf := fun _ h => List.mem_cons_of_mem _ (List.mem_append_right _ h)
def wp_X11_hourOf (x1 : Int32) (v_s : IA) (K : Int32 → Prop) : Prop := vp_in (((77 : Int32) + ((2 : Int32) * x1)) + (1 : Int32)) 120 ∧ (K (v_s (((77 : Int32) + ((2 : Int32) * x1)) + (1 : Int32)).toNatClampNeg))
set_option maxHeartbeats 4000000 in
set_option maxRecDepth 100000 in
theorem c_X11_hourOf {l : Launch} {D : va_G} {cy : ClassId} {a_this a_s : Nat} {w_refusals w_image w_read w_tape w_told w_met w_best w_kept w_squares w_far w_queue : Value} {v_s : IA} {v_isImage : Int32} {v_taped : Int32} {v_at : Int32} {v_wrongHour : Int32} {v_wrongThing : Int32} {v_soonest : Int32} {v_bestSteps : Int32} {x1 : Int32} {K : Int32 → Prop} : CtI l yX11_hourOf wsX11_hourOf { frames := 1, cells := 0, slots := 0, locals := 64 } 0 0 D cy [.ref a_this, .int x1] (w_X11_hourOf cy a_this a_s w_refusals w_image w_read w_tape w_told w_met w_best w_kept w_squares w_far w_queue v_s v_isImage v_taped v_at v_wrongHour v_wrongThing v_soonest v_bestSteps) (wp_X11_hourOf x1 v_s K) (fun (u : Unit) => (w_X11_hourOf cy a_this a_s w_refusals w_image w_read w_tape w_told w_met w_best w_kept w_squares w_far w_queue v_s v_isImage v_taped v_at v_wrongHour v_wrongThing v_soonest v_bestSteps)) (fun (r : Int32) (u : Unit) => K r) := by
  refine CtI.mk (cc := cX11_hourOf) (nL := 2) (ty := .int) (by decide) rfl (Nat.le_of_ble_eq_true rfl) (fun r u h => rfl) ?_
  intro p e s m args below meth c A Q ha hr _ h ls hl hw
  have ha : am p s m args c cX11_hourOf 2 RX11 wsX11_hourOf D cy A := ha
  have hx := ha.1
  have hb := ha.2.1
  have hl : lv_has ls 2 [(0, .ref a_this), (1, .int x1)] := hl
  have h : vp_in (((77 : Int32) + ((2 : Int32) * x1)) + (1 : Int32)) 120 ∧ (K (v_s (((77 : Int32) + ((2 : Int32) * x1)) + (1 : Int32)).toNatClampNeg)) := h
  refine lv_aload_n hx hb dX11_hourOf_0 rfl (lv_at hl 0 rfl) ?_
  refine g_get (ci := 11) ha hw 0 1 rfl hi_X11_hourOf_11 (by decide) (List.mem_of_getElem? (i := 1) rfl) rfl rfl dX11_hourOf_1 ?_
  refine lv_bipush (v := (77 : Int32)) hx hb dX11_hourOf_4 (by decide) ?_
  refine lv_iconst (v := (2 : Int32)) hx hb dX11_hourOf_6 (by decide) ?_
  refine lv_iload_n hx hb dX11_hourOf_7 rfl (lv_at hl 1 rfl) ?_
  refine lv_imul hx hb dX11_hourOf_8 ?_
  refine lv_iadd hx hb dX11_hourOf_9 ?_
  refine lv_iconst (v := (1 : Int32)) hx hb dX11_hourOf_10 (by decide) ?_
  refine lv_iadd hx hb dX11_hourOf_11 ?_
  obtain ⟨z1, h⟩ := h
  refine g_ald ha hw 1 rfl z1 dX11_hourOf_12 ?_
  exact hr _ _ () _ _ _ dX11_hourOf_13 h hw
theorem hq_X11_endOf : yX11_endOf.cls = RX11 ∧ yX11_endOf.cls ≠ "java/lang/invoke/MethodHandle" ∧ yX11_endOf.cls ≠ "java/lang/invoke/VarHandle" ∧ (parseMethodDescriptor yX11_endOf.desc).map (fun d => d.parameters.length) = some 1 := by decide +kernel
def w_X11_endOf (cy : ClassId) (a_this a_s : Nat) (w_refusals w_image w_read w_tape w_told w_met w_best w_kept w_squares w_far w_queue : Value) (v_s : IA) (v_isImage : Int32) (v_taped : Int32) (v_at : Int32) (v_wrongHour : Int32) (v_wrongThing : Int32) (v_soonest : Int32) (v_bestSteps : Int32) : va_W := [(a_this, .inr (11, [w_refusals, .ref a_s, w_image, w_read, .int v_isImage, w_tape, w_told, .int v_taped, .int v_at, w_met, .int v_wrongHour, .int v_wrongThing, w_best, w_kept, .int v_soonest, .int v_bestSteps, w_squares, w_far, w_queue])), (a_s, .inl (cy, 120, .inl v_s))]
theorem hi_X11_endOf_11 : ∀ w ∈ u_ws RX11 TX11 19, w ∈ wsX11_endOf := fun _ h => List.mem_cons_of_mem _ (List.mem_append_right _ h)
def wp_X11_endOf (x1 : Int32) (v_s : IA) (K : Int32 → Prop) : Prop := wp_X11_hourOf x1 v_s (fun (r1 : Int32) => wp_X11_roomOf x1 v_s (fun (r2 : Int32) => vp_in ((9 : Int32) + r2) 120 ∧ ((¬ (v_s (7 : Int32).toNatClampNeg) = 0) ∧ (K (r1 + ((((v_s ((9 : Int32) + r2).toNatClampNeg) + (v_s (7 : Int32).toNatClampNeg)) - (1 : Int32)) / (v_s (7 : Int32).toNatClampNeg)))))))
set_option maxHeartbeats 4000000 in
set_option maxRecDepth 100000 in
theorem c_X11_endOf {l : Launch} {D : va_G} {cy : ClassId} {a_this a_s : Nat} {w_refusals w_image w_read w_tape w_told w_met w_best w_kept w_squares w_far w_queue : Value} {v_s : IA} {v_isImage : Int32} {v_taped : Int32} {v_at : Int32} {v_wrongHour : Int32} {v_wrongThing : Int32} {v_soonest : Int32} {v_bestSteps : Int32} {x1 : Int32} {K : Int32 → Prop} : CtI l yX11_endOf wsX11_endOf { frames := 2, cells := 0, slots := 0, locals := 149 } 0 0 D cy [.ref a_this, .int x1] (w_X11_endOf cy a_this a_s w_refusals w_image w_read w_tape w_told w_met w_best w_kept w_squares w_far w_queue v_s v_isImage v_taped v_at v_wrongHour v_wrongThing v_soonest v_bestSteps) (wp_X11_endOf x1 v_s K) (fun (u : Unit) => (w_X11_endOf cy a_this a_s w_refusals w_image w_read w_tape w_told w_met w_best w_kept w_squares w_far w_queue v_s v_isImage v_taped v_at v_wrongHour v_wrongThing v_soonest v_bestSteps)) (fun (r : Int32) (u : Unit) => K r) := by
  refine CtI.mk (cc := cX11_endOf) (nL := 2) (ty := .int) (by decide) rfl (Nat.le_of_ble_eq_true rfl) (fun r u h => rfl) ?_
  intro p e s m args below meth c A Q ha hr _ h ls hl hw
  have ha : am p s m args c cX11_endOf 2 RX11 wsX11_endOf D cy A := ha
  have hx := ha.1
  have hb := ha.2.1
  have hl : lv_has ls 2 [(0, .ref a_this), (1, .int x1)] := hl
  have h : wp_X11_hourOf x1 v_s (fun (r1 : Int32) => wp_X11_roomOf x1 v_s (fun (r2 : Int32) => vp_in ((9 : Int32) + r2) 120 ∧ ((¬ (v_s (7 : Int32).toNatClampNeg) = 0) ∧ (K (r1 + ((((v_s ((9 : Int32) + r2).toNatClampNeg) + (v_s (7 : Int32).toNatClampNeg)) - (1 : Int32)) / (v_s (7 : Int32).toNatClampNeg))))))) := h
  refine lv_aload_n hx hb dX11_endOf_0 rfl (lv_at hl 0 rfl) ?_
  refine lv_iload_n hx hb dX11_endOf_1 rfl (lv_at hl 1 rfl) ?_
  refine g_cvi (rm := { frames := 1, cells := 0, slots := 0, locals := 64 }) (wn := (fun (u : Unit) => (w_X11_endOf cy a_this a_s w_refusals w_image w_read w_tape w_told w_met w_best w_kept w_squares w_far w_queue v_s v_isImage v_taped v_at v_wrongHour v_wrongThing v_soonest v_bestSteps))) (As := [.int x1]) ha hw hl.1 (c_X11_hourOf (cy := cy)) (cwV 1 ha.2.2.2.2.1 gX11_endOf_X11_hourOf rfl rfl rfl hq_X11_hourOf ⟨Nat.le_of_ble_eq_true rfl, Nat.le_of_ble_eq_true rfl⟩) [0, 1] [] [0, 1] rfl rfl rfl rfl (by decide) rfl (fun _ => rfl) rfl rfl h rfl rfl (Nat.le_of_ble_eq_true rfl) dX11_endOf_2 ⟨Nat.le_refl _, Nat.le_refl _⟩ (fun r1 u H locs h hw => ?_)
  have hw : wd D A s.heap (w_X11_endOf cy a_this a_s w_refusals w_image w_read w_tape w_told w_met w_best w_kept w_squares w_far w_queue v_s v_isImage v_taped v_at v_wrongHour v_wrongThing v_soonest v_bestSteps) H locs := hw
  try dsimp only at h
  refine lv_aload_n hx hb dX11_endOf_5 rfl (lv_at hl 0 rfl) ?_
  refine g_get (ci := 11) ha hw 0 1 rfl hi_X11_endOf_11 (by decide) (List.mem_of_getElem? (i := 1) rfl) rfl rfl dX11_endOf_6 ?_
  refine lv_bipush (v := (9 : Int32)) hx hb dX11_endOf_9 (by decide) ?_
  refine lv_aload_n hx hb dX11_endOf_11 rfl (lv_at hl 0 rfl) ?_
  refine lv_iload_n hx hb dX11_endOf_12 rfl (lv_at hl 1 rfl) ?_
  refine g_cvi (rm := { frames := 1, cells := 0, slots := 0, locals := 64 }) (wn := (fun (u : Unit) => (w_X11_endOf cy a_this a_s w_refusals w_image w_read w_tape w_told w_met w_best w_kept w_squares w_far w_queue v_s v_isImage v_taped v_at v_wrongHour v_wrongThing v_soonest v_bestSteps))) (As := [.int x1]) ha hw hl.1 (c_X11_roomOf (cy := cy)) (cwV 1 ha.2.2.2.2.1 gX11_endOf_X11_roomOf rfl rfl rfl hq_X11_roomOf ⟨Nat.le_of_ble_eq_true rfl, Nat.le_of_ble_eq_true rfl⟩) [0, 1] [] [0, 1] rfl rfl rfl rfl (by decide) rfl (fun _ => rfl) rfl rfl h rfl rfl (Nat.le_of_ble_eq_true rfl) dX11_endOf_13 ⟨Nat.le_refl _, Nat.le_refl _⟩ (fun r2 u H locs h hw => ?_)
  have hw : wd D A s.heap (w_X11_endOf cy a_this a_s w_refusals w_image w_read w_tape w_told w_met w_best w_kept w_squares w_far w_queue v_s v_isImage v_taped v_at v_wrongHour v_wrongThing v_soonest v_bestSteps) H locs := hw
  try dsimp only at h
  refine lv_iadd hx hb dX11_endOf_16 ?_
  obtain ⟨z3, h⟩ := h
  refine g_ald ha hw 1 rfl z3 dX11_endOf_17 ?_
  refine lv_aload_n hx hb dX11_endOf_18 rfl (lv_at hl 0 rfl) ?_
  refine g_get (ci := 11) ha hw 0 1 rfl hi_X11_endOf_11 (by decide) (List.mem_of_getElem? (i := 1) rfl) rfl rfl dX11_endOf_19 ?_
  refine lv_bipush (v := (7 : Int32)) hx hb dX11_endOf_22 (by decide) ?_
  refine g_ald ha hw 1 rfl (vp_in_iff.mpr (by decide)) dX11_endOf_24 ?_
  refine lv_iadd hx hb dX11_endOf_25 ?_
  refine lv_iconst (v := (1 : Int32)) hx hb dX11_endOf_26 (by decide) ?_
  refine lv_isub hx hb dX11_endOf_27 ?_
  refine lv_aload_n hx hb dX11_endOf_28 rfl (lv_at hl 0 rfl) ?_
  refine g_get (ci := 11) ha hw 0 1 rfl hi_X11_endOf_11 (by decide) (List.mem_of_getElem? (i := 1) rfl) rfl rfl dX11_endOf_29 ?_
  refine lv_bipush (v := (7 : Int32)) hx hb dX11_endOf_32 (by decide) ?_
  refine g_ald ha hw 1 rfl (vp_in_iff.mpr (by decide)) dX11_endOf_34 ?_
  obtain ⟨z4, h⟩ := h
  refine lv_idiv hx hb dX11_endOf_35 z4 ?_
  refine lv_iadd hx hb dX11_endOf_36 ?_
  exact hr _ _ () _ _ _ dX11_endOf_37 h hw
theorem hq_X11_isPlanked : yX11_isPlanked.cls = RX11 ∧ yX11_isPlanked.cls ≠ "java/lang/invoke/MethodHandle" ∧ yX11_isPlanked.cls ≠ "java/lang/invoke/VarHandle" ∧ (parseMethodDescriptor yX11_isPlanked.desc).map (fun d => d.parameters.length) = some 1 := by decide +kernel
def w_X11_isPlanked (cy : ClassId) (a_this a_s : Nat) (w_refusals w_image w_read w_tape w_told w_met w_best w_kept w_squares w_far w_queue : Value) (v_s : IA) (v_isImage : Int32) (v_taped : Int32) (v_at : Int32) (v_wrongHour : Int32) (v_wrongThing : Int32) (v_soonest : Int32) (v_bestSteps : Int32) : va_W := [(a_this, .inr (11, [w_refusals, .ref a_s, w_image, w_read, .int v_isImage, w_tape, w_told, .int v_taped, .int v_at, w_met, .int v_wrongHour, .int v_wrongThing, w_best, w_kept, .int v_soonest, .int v_bestSteps, w_squares, w_far, w_queue])), (a_s, .inl (cy, 120, .inl v_s))]
theorem hi_X11_isPlanked_11 : ∀ w ∈ u_ws RX11 TX11 19, w ∈ wsX11_isPlanked := fun _ h => List.mem_cons_of_mem _ (List.mem_append_right _ h)
def wp_X11_isPlanked (x1 : Int32) (v_s : IA) (K : Int32 → Prop) : Prop := ((((v_s (8 : Int32).toNatClampNeg) >>> (x1 &&& 31)) &&& (1 : Int32)) = (1 : Int32) → K (1 : Int32)) ∧ (¬ ((((v_s (8 : Int32).toNatClampNeg) >>> (x1 &&& 31)) &&& (1 : Int32)) = (1 : Int32)) → K (0 : Int32))
set_option maxHeartbeats 4000000 in
set_option maxRecDepth 100000 in
theorem c_X11_isPlanked {l : Launch} {D : va_G} {cy : ClassId} {a_this a_s : Nat} {w_refusals w_image w_read w_tape w_told w_met w_best w_kept w_squares w_far w_queue : Value} {v_s : IA} {v_isImage : Int32} {v_taped : Int32} {v_at : Int32} {v_wrongHour : Int32} {v_wrongThing : Int32} {v_soonest : Int32} {v_bestSteps : Int32} {x1 : Int32} {K : Int32 → Prop} : CtI l yX11_isPlanked wsX11_isPlanked { frames := 1, cells := 0, slots := 0, locals := 64 } 0 0 D cy [.ref a_this, .int x1] (w_X11_isPlanked cy a_this a_s w_refusals w_image w_read w_tape w_told w_met w_best w_kept w_squares w_far w_queue v_s v_isImage v_taped v_at v_wrongHour v_wrongThing v_soonest v_bestSteps) (wp_X11_isPlanked x1 v_s K) (fun (u : Unit) => (w_X11_isPlanked cy a_this a_s w_refusals w_image w_read w_tape w_told w_met w_best w_kept w_squares w_far w_queue v_s v_isImage v_taped v_at v_wrongHour v_wrongThing v_soonest v_bestSteps)) (fun (r : Int32) (u : Unit) => nz r ∧ K r) := by
  refine CtI.mk (cc := cX11_isPlanked) (nL := 2) (ty := .boolean) (by decide) rfl (Nat.le_of_ble_eq_true rfl) (fun r u h => h.1.nar) ?_
  intro p e s m args below meth c A Q ha hr _ h ls hl hw
  have ha : am p s m args c cX11_isPlanked 2 RX11 wsX11_isPlanked D cy A := ha
  have hx := ha.1
  have hb := ha.2.1
  have hl : lv_has ls 2 [(0, .ref a_this), (1, .int x1)] := hl
  have h : ((((v_s (8 : Int32).toNatClampNeg) >>> (x1 &&& 31)) &&& (1 : Int32)) = (1 : Int32) → K (1 : Int32)) ∧ (¬ ((((v_s (8 : Int32).toNatClampNeg) >>> (x1 &&& 31)) &&& (1 : Int32)) = (1 : Int32)) → K (0 : Int32)) := h
  refine lv_aload_n hx hb dX11_isPlanked_0 rfl (lv_at hl 0 rfl) ?_
  refine g_get (ci := 11) ha hw 0 1 rfl hi_X11_isPlanked_11 (by decide) (List.mem_of_getElem? (i := 1) rfl) rfl rfl dX11_isPlanked_1 ?_
  refine lv_bipush (v := (8 : Int32)) hx hb dX11_isPlanked_4 (by decide) ?_
  refine g_ald ha hw 1 rfl (vp_in_iff.mpr (by decide)) dX11_isPlanked_6 ?_
  refine lv_iload_n hx hb dX11_isPlanked_7 rfl (lv_at hl 1 rfl) ?_
  refine lv_ishr hx hb dX11_isPlanked_8 ?_
  refine lv_iconst (v := (1 : Int32)) hx hb dX11_isPlanked_9 (by decide) ?_
  refine lv_iand hx hb dX11_isPlanked_10 ?_
  refine lv_iconst (v := (1 : Int32)) hx hb dX11_isPlanked_11 (by decide) ?_
  refine lv_icmp_ne (tgt := 19) hx hb dX11_isPlanked_12 (by decide) (fun c1 => ?_) (fun c1 => ?_)
  · have h := h.2 c1
    refine lv_iconst (v := (0 : Int32)) hx hb dX11_isPlanked_19 (by decide) ?_
    exact hr _ _ () _ _ _ dX11_isPlanked_20 ⟨nz0, h⟩ hw
  · have h := h.1 c1
    refine lv_iconst (v := (1 : Int32)) hx hb dX11_isPlanked_15 (by decide) ?_
    refine lv_goto (tgt := 20) hx hb dX11_isPlanked_16 (by decide) ?_
    exact hr _ _ () _ _ _ dX11_isPlanked_20 ⟨nz1, h⟩ hw
theorem hq_X11_openAt : yX11_openAt.cls = RX11 ∧ yX11_openAt.cls ≠ "java/lang/invoke/MethodHandle" ∧ yX11_openAt.cls ≠ "java/lang/invoke/VarHandle" ∧ (parseMethodDescriptor yX11_openAt.desc).map (fun d => d.parameters.length) = some 2 := by decide +kernel
def w_X11_openAt (cy : ClassId) (a_this a_s : Nat) (w_refusals w_image w_read w_tape w_told w_met w_best w_kept w_squares w_far w_queue : Value) (v_s : IA) (v_isImage : Int32) (v_taped : Int32) (v_at : Int32) (v_wrongHour : Int32) (v_wrongThing : Int32) (v_soonest : Int32) (v_bestSteps : Int32) : va_W := [(a_this, .inr (11, [w_refusals, .ref a_s, w_image, w_read, .int v_isImage, w_tape, w_told, .int v_taped, .int v_at, w_met, .int v_wrongHour, .int v_wrongThing, w_best, w_kept, .int v_soonest, .int v_bestSteps, w_squares, w_far, w_queue])), (a_s, .inl (cy, 120, .inl v_s))]
theorem hi_X11_openAt_11 : ∀ w ∈ u_ws RX11 TX11 19, w ∈ wsX11_openAt := fun _ h => List.mem_cons_of_mem _ (List.mem_append_right _ h)
def wp_X11_openAt_104 (v_s : IA) (E14 : Int32 → Int32 → Prop) (K : Int32 → Prop) (x3 : Int32) (x4 : Int32) : Prop := wp_X11_roomOf x4 v_s (fun (r8 : Int32) => ∀ x3_9 : Int32, x3_9 = x3 &&& (((1 : Int32) <<< (r8 &&& 31)) ^^^ (-1 : Int32)) → E14 x3_9 (x4 + (1 : Int32)))
set_option maxHeartbeats 4000000 in
set_option maxRecDepth 100000 in
theorem pl_X11_openAt_104 {p : Program} {l : Launch} {e : Env} {s : State} {m : MethodId} {args : Array Value} {below : List Frame} {meth : Method} {c : Code} {A : Nat → Prop} {Q : State → Prop} {D : va_G} {cy : ClassId} {a_this a_s : Nat} {w_refusals w_image w_read w_tape w_told w_met w_best w_kept w_squares w_far w_queue : Value} {v_s : IA} {v_isImage : Int32} {v_taped : Int32} {v_at : Int32} {v_wrongHour : Int32} {v_wrongThing : Int32} {v_soonest : Int32} {v_bestSteps : Int32} {x1 : Int32} {x2 : Int32} {K : Int32 → Prop} {E14 : Int32 → Int32 → Prop} (ha : am p s m args c cX11_openAt 7 RX11 wsX11_openAt D cy A) (hr : rtI p l e { frames := 3, cells := 0, slots := 0, locals := 234 } s m args below meth c 0 0 Q cX11_openAt D A (fun (u : Unit) => (w_X11_openAt cy a_this a_s w_refusals w_image w_read w_tape w_told w_met w_best w_kept w_squares w_far w_queue v_s v_isImage v_taped v_at v_wrongHour v_wrongThing v_soonest v_bestSteps)) (fun (r : Int32) (u : Unit) => K r)) (hE14 : ∀ (x3' : Int32) (x4' : Int32) (H : Heap) (locs : List Loc) (ls : Array Slot), E14 x3' x4' → wd D A s.heap (w_X11_openAt cy a_this a_s w_refusals w_image w_read w_tape w_told w_met w_best w_kept w_squares w_far w_queue v_s v_isImage v_taped v_at v_wrongHour v_wrongThing v_soonest v_bestSteps) H locs → lv_has ls 7 [(0, .ref a_this), (1, .int x1), (2, .int x2), (3, .int x3'), (4, .int x4')] → W p l e { frames := 3, cells := 0, slots := 0, locals := 234 } s m args below meth c H locs 0 0 Q (F0 m 14 ls [])) {x3 : Int32} {x4 : Int32} {H : Heap} {locs : List Loc} {ls : Array Slot} : wp_X11_openAt_104 v_s E14 K x3 x4 → wd D A s.heap (w_X11_openAt cy a_this a_s w_refusals w_image w_read w_tape w_told w_met w_best w_kept w_squares w_far w_queue v_s v_isImage v_taped v_at v_wrongHour v_wrongThing v_soonest v_bestSteps) H locs → lv_has ls 7 [(0, .ref a_this), (1, .int x1), (2, .int x2), (3, .int x3), (4, .int x4)] → W p l e { frames := 3, cells := 0, slots := 0, locals := 234 } s m args below meth c H locs 0 0 Q (F0 m 104 ls []) := by
  have hx := ha.1
  have hb := ha.2.1
  intro h hw hl
  have h : wp_X11_roomOf x4 v_s (fun (r8 : Int32) => ∀ x3_9 : Int32, x3_9 = x3 &&& (((1 : Int32) <<< (r8 &&& 31)) ^^^ (-1 : Int32)) → E14 x3_9 (x4 + (1 : Int32))) := h
  refine lv_iload_n hx hb dX11_openAt_104 rfl (lv_at hl 3 rfl) ?_
  refine lv_iconst (v := (1 : Int32)) hx hb dX11_openAt_105 (by decide) ?_
  refine lv_aload_n hx hb dX11_openAt_106 rfl (lv_at hl 0 rfl) ?_
  refine lv_iload hx hb dX11_openAt_107 (lv_at hl 4 rfl) ?_
  refine g_cvi (rm := { frames := 1, cells := 0, slots := 0, locals := 64 }) (wn := (fun (u : Unit) => (w_X11_openAt cy a_this a_s w_refusals w_image w_read w_tape w_told w_met w_best w_kept w_squares w_far w_queue v_s v_isImage v_taped v_at v_wrongHour v_wrongThing v_soonest v_bestSteps))) (As := [.int x4]) ha hw hl.1 (c_X11_roomOf (cy := cy)) (cwV 1 ha.2.2.2.2.1 gX11_openAt_X11_roomOf rfl rfl rfl hq_X11_roomOf ⟨Nat.le_of_ble_eq_true rfl, Nat.le_of_ble_eq_true rfl⟩) [0, 1] [] [0, 1] rfl rfl rfl rfl (by decide) rfl (fun _ => rfl) rfl rfl h rfl rfl (Nat.le_of_ble_eq_true rfl) dX11_openAt_109 ⟨Nat.le_refl _, Nat.le_refl _⟩ (fun r8 u H locs h hw => ?_)
  have hw : wd D A s.heap (w_X11_openAt cy a_this a_s w_refusals w_image w_read w_tape w_told w_met w_best w_kept w_squares w_far w_queue v_s v_isImage v_taped v_at v_wrongHour v_wrongThing v_soonest v_bestSteps) H locs := hw
  try dsimp only at h
  refine lv_ishl hx hb dX11_openAt_112 ?_
  refine lv_iconst (v := (-1 : Int32)) hx hb dX11_openAt_113 (by decide) ?_
  refine lv_ixor hx hb dX11_openAt_114 ?_
  refine lv_iand hx hb dX11_openAt_115 ?_
  refine lv_topi (fun x3_9 ex3_9 => ?_)
  have h := h x3_9 ex3_9
  refine lv_istore_n (lv' := [(3, .int x3_9), (0, .ref a_this), (1, .int x1), (2, .int x2), (4, .int x4)]) hx hb dX11_openAt_116 rfl hl (by decide) rfl (fun ls hl => ?_)
  refine lv_iinc (v := x4 + (1 : Int32)) (lv' := [(4, .int (x4 + (1 : Int32))), (3, .int x3_9), (0, .ref a_this), (1, .int x1), (2, .int x2)]) hx hb dX11_openAt_117 hl (k := 4) rfl rfl (by decide) rfl (fun ls hl => ?_)
  refine lv_goto (tgt := 14) hx hb dX11_openAt_120 (by decide) ?_
  exact hE14 _ _ _ _ _ h hw (lv_sub hl [2, 3, 4, 1, 0] rfl)
def wp_X11_openAt_92 (x5 : Int32) (v_s : IA) (E14 : Int32 → Int32 → Prop) (K : Int32 → Prop) (x3 : Int32) (x4 : Int32) (t0 : Int32) : Prop := (x5 = 0 → (t0 = 0 → E14 x3 (x4 + (1 : Int32))) ∧ (¬ (t0 = 0) → wp_X11_openAt_104 v_s (fun (x3_13 : Int32) (x4_14 : Int32) => E14 x3_13 x4_14) K x3 x4)) ∧ (¬ (x5 = 0) → wp_X11_openAt_104 v_s (fun (x3_10 : Int32) (x4_11 : Int32) => E14 x3_10 x4_11) K x3 x4)
set_option maxHeartbeats 4000000 in
set_option maxRecDepth 100000 in
theorem pl_X11_openAt_92 {p : Program} {l : Launch} {e : Env} {s : State} {m : MethodId} {args : Array Value} {below : List Frame} {meth : Method} {c : Code} {A : Nat → Prop} {Q : State → Prop} {D : va_G} {cy : ClassId} {a_this a_s : Nat} {w_refusals w_image w_read w_tape w_told w_met w_best w_kept w_squares w_far w_queue : Value} {v_s : IA} {v_isImage : Int32} {v_taped : Int32} {v_at : Int32} {v_wrongHour : Int32} {v_wrongThing : Int32} {v_soonest : Int32} {v_bestSteps : Int32} {x5 : Int32} {x1 : Int32} {x2 : Int32} {K : Int32 → Prop} {E14 : Int32 → Int32 → Prop} (ha : am p s m args c cX11_openAt 7 RX11 wsX11_openAt D cy A) (hr : rtI p l e { frames := 3, cells := 0, slots := 0, locals := 234 } s m args below meth c 0 0 Q cX11_openAt D A (fun (u : Unit) => (w_X11_openAt cy a_this a_s w_refusals w_image w_read w_tape w_told w_met w_best w_kept w_squares w_far w_queue v_s v_isImage v_taped v_at v_wrongHour v_wrongThing v_soonest v_bestSteps)) (fun (r : Int32) (u : Unit) => K r)) (hE14 : ∀ (x3' : Int32) (x4' : Int32) (H : Heap) (locs : List Loc) (ls : Array Slot), E14 x3' x4' → wd D A s.heap (w_X11_openAt cy a_this a_s w_refusals w_image w_read w_tape w_told w_met w_best w_kept w_squares w_far w_queue v_s v_isImage v_taped v_at v_wrongHour v_wrongThing v_soonest v_bestSteps) H locs → lv_has ls 7 [(0, .ref a_this), (1, .int x1), (2, .int x2), (3, .int x3'), (4, .int x4')] → W p l e { frames := 3, cells := 0, slots := 0, locals := 234 } s m args below meth c H locs 0 0 Q (F0 m 14 ls [])) {x3 : Int32} {x4 : Int32} {t0 : Int32} {H : Heap} {locs : List Loc} {ls : Array Slot} : wp_X11_openAt_92 x5 v_s E14 K x3 x4 t0 → wd D A s.heap (w_X11_openAt cy a_this a_s w_refusals w_image w_read w_tape w_told w_met w_best w_kept w_squares w_far w_queue v_s v_isImage v_taped v_at v_wrongHour v_wrongThing v_soonest v_bestSteps) H locs → lv_has ls 7 [(0, .ref a_this), (1, .int x1), (2, .int x2), (3, .int x3), (4, .int x4), (5, .int x5)] → W p l e { frames := 3, cells := 0, slots := 0, locals := 234 } s m args below meth c H locs 0 0 Q (F0 m 92 ls [.int t0]) := by
  have hx := ha.1
  have hb := ha.2.1
  intro h hw hl
  have h : (x5 = 0 → (t0 = 0 → E14 x3 (x4 + (1 : Int32))) ∧ (¬ (t0 = 0) → wp_X11_openAt_104 v_s (fun (x3_13 : Int32) (x4_14 : Int32) => E14 x3_13 x4_14) K x3 x4)) ∧ (¬ (x5 = 0) → wp_X11_openAt_104 v_s (fun (x3_10 : Int32) (x4_11 : Int32) => E14 x3_10 x4_11) K x3 x4) := h
  refine lv_istore (lv' := [(6, .int t0), (0, .ref a_this), (1, .int x1), (2, .int x2), (3, .int x3), (4, .int x4), (5, .int x5)]) hx hb dX11_openAt_92 hl (by decide) rfl (fun ls hl => ?_)
  refine lv_iload hx hb dX11_openAt_94 (lv_at hl 6 rfl) ?_
  refine lv_if_ne (tgt := 104) hx hb dX11_openAt_96 (by decide) (fun c7 => ?_) (fun c7 => ?_)
  · have h := h.2 c7
    refine pl_X11_openAt_104 ha hr ?_ h hw (lv_sub hl [1, 2, 3, 4, 5] rfl)
    · intro x3_10 x4_11 H locs ls h hw hl
      try dsimp only at h
      exact hE14 _ _ _ _ _ h hw (lv_sub hl [0, 1, 2, 3, 4] rfl)
  · have h := h.1 c7
    refine lv_iload hx hb dX11_openAt_99 (lv_at hl 0 rfl) ?_
    refine lv_if_eq (tgt := 117) hx hb dX11_openAt_101 (by decide) (fun c12 => ?_) (fun c12 => ?_)
    · have h := h.1 c12
      refine lv_iinc (v := x4 + (1 : Int32)) (lv' := [(4, .int (x4 + (1 : Int32))), (6, .int t0), (0, .ref a_this), (1, .int x1), (2, .int x2), (3, .int x3), (5, .int x5)]) hx hb dX11_openAt_117 hl (k := 5) rfl rfl (by decide) rfl (fun ls hl => ?_)
      refine lv_goto (tgt := 14) hx hb dX11_openAt_120 (by decide) ?_
      exact hE14 _ _ _ _ _ h hw (lv_sub hl [2, 3, 4, 5, 0] rfl)
    · have h := h.2 c12
      refine pl_X11_openAt_104 ha hr ?_ h hw (lv_sub hl [1, 2, 3, 4, 5] rfl)
      · intro x3_13 x4_14 H locs ls h hw hl
        try dsimp only at h
        exact hE14 _ _ _ _ _ h hw (lv_sub hl [0, 1, 2, 3, 4] rfl)
def wp_X11_openAt_45 (x1 : Int32) (v_s : IA) (E14 : Int32 → Int32 → Prop) (K : Int32 → Prop) (x3 : Int32) (x4 : Int32) (t0 : Int32) : Prop := wp_X11_endOf x4 v_s (fun (r5 : Int32) => (x1 < r5 → wp_X11_openAt_92 t0 v_s (fun (x3_15 : Int32) (x4_16 : Int32) => E14 x3_15 x4_16) K x3 x4 (0 : Int32)) ∧ (¬ (x1 < r5) → wp_X11_endOf x4 v_s (fun (r17 : Int32) => ((r17 + (v_s (4 : Int32).toNatClampNeg)) ≤ x1 → wp_X11_openAt_92 t0 v_s (fun (x3_19 : Int32) (x4_20 : Int32) => E14 x3_19 x4_20) K x3 x4 (0 : Int32)) ∧ (¬ ((r17 + (v_s (4 : Int32).toNatClampNeg)) ≤ x1) → wp_X11_roomOf x4 v_s (fun (r21 : Int32) => wp_X11_isPlanked r21 v_s (fun (r22 : Int32) => (r22 = 0 → wp_X11_openAt_92 t0 v_s (fun (x3_26 : Int32) (x4_27 : Int32) => E14 x3_26 x4_27) K x3 x4 (1 : Int32)) ∧ (¬ (r22 = 0) → wp_X11_openAt_92 t0 v_s (fun (x3_24 : Int32) (x4_25 : Int32) => E14 x3_24 x4_25) K x3 x4 (0 : Int32))))))))
set_option maxHeartbeats 4000000 in
set_option maxRecDepth 100000 in
theorem pl_X11_openAt_45 {p : Program} {l : Launch} {e : Env} {s : State} {m : MethodId} {args : Array Value} {below : List Frame} {meth : Method} {c : Code} {A : Nat → Prop} {Q : State → Prop} {D : va_G} {cy : ClassId} {a_this a_s : Nat} {w_refusals w_image w_read w_tape w_told w_met w_best w_kept w_squares w_far w_queue : Value} {v_s : IA} {v_isImage : Int32} {v_taped : Int32} {v_at : Int32} {v_wrongHour : Int32} {v_wrongThing : Int32} {v_soonest : Int32} {v_bestSteps : Int32} {x1 : Int32} {x2 : Int32} {K : Int32 → Prop} {E14 : Int32 → Int32 → Prop} (ha : am p s m args c cX11_openAt 7 RX11 wsX11_openAt D cy A) (hr : rtI p l e { frames := 3, cells := 0, slots := 0, locals := 234 } s m args below meth c 0 0 Q cX11_openAt D A (fun (u : Unit) => (w_X11_openAt cy a_this a_s w_refusals w_image w_read w_tape w_told w_met w_best w_kept w_squares w_far w_queue v_s v_isImage v_taped v_at v_wrongHour v_wrongThing v_soonest v_bestSteps)) (fun (r : Int32) (u : Unit) => K r)) (hE14 : ∀ (x3' : Int32) (x4' : Int32) (H : Heap) (locs : List Loc) (ls : Array Slot), E14 x3' x4' → wd D A s.heap (w_X11_openAt cy a_this a_s w_refusals w_image w_read w_tape w_told w_met w_best w_kept w_squares w_far w_queue v_s v_isImage v_taped v_at v_wrongHour v_wrongThing v_soonest v_bestSteps) H locs → lv_has ls 7 [(0, .ref a_this), (1, .int x1), (2, .int x2), (3, .int x3'), (4, .int x4')] → W p l e { frames := 3, cells := 0, slots := 0, locals := 234 } s m args below meth c H locs 0 0 Q (F0 m 14 ls [])) {x3 : Int32} {x4 : Int32} {t0 : Int32} {H : Heap} {locs : List Loc} {ls : Array Slot} : wp_X11_openAt_45 x1 v_s E14 K x3 x4 t0 → wd D A s.heap (w_X11_openAt cy a_this a_s w_refusals w_image w_read w_tape w_told w_met w_best w_kept w_squares w_far w_queue v_s v_isImage v_taped v_at v_wrongHour v_wrongThing v_soonest v_bestSteps) H locs → lv_has ls 7 [(0, .ref a_this), (1, .int x1), (2, .int x2), (3, .int x3), (4, .int x4)] → W p l e { frames := 3, cells := 0, slots := 0, locals := 234 } s m args below meth c H locs 0 0 Q (F0 m 45 ls [.int t0]) := by
  have hx := ha.1
  have hb := ha.2.1
  intro h hw hl
  have h : wp_X11_endOf x4 v_s (fun (r5 : Int32) => (x1 < r5 → wp_X11_openAt_92 t0 v_s (fun (x3_15 : Int32) (x4_16 : Int32) => E14 x3_15 x4_16) K x3 x4 (0 : Int32)) ∧ (¬ (x1 < r5) → wp_X11_endOf x4 v_s (fun (r17 : Int32) => ((r17 + (v_s (4 : Int32).toNatClampNeg)) ≤ x1 → wp_X11_openAt_92 t0 v_s (fun (x3_19 : Int32) (x4_20 : Int32) => E14 x3_19 x4_20) K x3 x4 (0 : Int32)) ∧ (¬ ((r17 + (v_s (4 : Int32).toNatClampNeg)) ≤ x1) → wp_X11_roomOf x4 v_s (fun (r21 : Int32) => wp_X11_isPlanked r21 v_s (fun (r22 : Int32) => (r22 = 0 → wp_X11_openAt_92 t0 v_s (fun (x3_26 : Int32) (x4_27 : Int32) => E14 x3_26 x4_27) K x3 x4 (1 : Int32)) ∧ (¬ (r22 = 0) → wp_X11_openAt_92 t0 v_s (fun (x3_24 : Int32) (x4_25 : Int32) => E14 x3_24 x4_25) K x3 x4 (0 : Int32)))))))) := h
  refine lv_istore (lv' := [(5, .int t0), (0, .ref a_this), (1, .int x1), (2, .int x2), (3, .int x3), (4, .int x4)]) hx hb dX11_openAt_45 hl (by decide) rfl (fun ls hl => ?_)
  refine lv_iload_n hx hb dX11_openAt_47 rfl (lv_at hl 2 rfl) ?_
  refine lv_aload_n hx hb dX11_openAt_48 rfl (lv_at hl 1 rfl) ?_
  refine lv_iload hx hb dX11_openAt_49 (lv_at hl 5 rfl) ?_
  refine g_cvi (rm := { frames := 2, cells := 0, slots := 0, locals := 149 }) (wn := (fun (u : Unit) => (w_X11_openAt cy a_this a_s w_refusals w_image w_read w_tape w_told w_met w_best w_kept w_squares w_far w_queue v_s v_isImage v_taped v_at v_wrongHour v_wrongThing v_soonest v_bestSteps))) (As := [.int x4]) ha hw hl.1 (c_X11_endOf (cy := cy)) (cwV 1 ha.2.2.2.2.1 gX11_openAt_X11_endOf rfl rfl rfl hq_X11_endOf ⟨Nat.le_of_ble_eq_true rfl, Nat.le_of_ble_eq_true rfl⟩) [0, 1] [] [0, 1] rfl rfl rfl rfl (by decide) rfl (fun _ => rfl) rfl rfl h rfl rfl (Nat.le_of_ble_eq_true rfl) dX11_openAt_51 ⟨Nat.le_refl _, Nat.le_refl _⟩ (fun r5 u H locs h hw => ?_)
  have hw : wd D A s.heap (w_X11_openAt cy a_this a_s w_refusals w_image w_read w_tape w_told w_met w_best w_kept w_squares w_far w_queue v_s v_isImage v_taped v_at v_wrongHour v_wrongThing v_soonest v_bestSteps) H locs := hw
  try dsimp only at h
  refine lv_icmp_lt (tgt := 91) hx hb dX11_openAt_54 (by decide) (fun c6 => ?_) (fun c6 => ?_)
  · have h := h.1 c6
    refine lv_iconst (v := (0 : Int32)) hx hb dX11_openAt_91 (by decide) ?_
    refine pl_X11_openAt_92 ha hr ?_ h hw (lv_sub hl [1, 2, 3, 4, 5, 0] rfl)
    · intro x3_15 x4_16 H locs ls h hw hl
      try dsimp only at h
      exact hE14 _ _ _ _ _ h hw (lv_sub hl [0, 1, 2, 3, 4] rfl)
  · have h := h.2 c6
    refine lv_iload_n hx hb dX11_openAt_57 rfl (lv_at hl 2 rfl) ?_
    refine lv_aload_n hx hb dX11_openAt_58 rfl (lv_at hl 1 rfl) ?_
    refine lv_iload hx hb dX11_openAt_59 (lv_at hl 5 rfl) ?_
    refine g_cvi (rm := { frames := 2, cells := 0, slots := 0, locals := 149 }) (wn := (fun (u : Unit) => (w_X11_openAt cy a_this a_s w_refusals w_image w_read w_tape w_told w_met w_best w_kept w_squares w_far w_queue v_s v_isImage v_taped v_at v_wrongHour v_wrongThing v_soonest v_bestSteps))) (As := [.int x4]) ha hw hl.1 (c_X11_endOf (cy := cy)) (cwV 1 ha.2.2.2.2.1 gX11_openAt_X11_endOf rfl rfl rfl hq_X11_endOf ⟨Nat.le_of_ble_eq_true rfl, Nat.le_of_ble_eq_true rfl⟩) [0, 1] [] [0, 1] rfl rfl rfl rfl (by decide) rfl (fun _ => rfl) rfl rfl h rfl rfl (Nat.le_of_ble_eq_true rfl) dX11_openAt_61 ⟨Nat.le_refl _, Nat.le_refl _⟩ (fun r17 u H locs h hw => ?_)
    have hw : wd D A s.heap (w_X11_openAt cy a_this a_s w_refusals w_image w_read w_tape w_told w_met w_best w_kept w_squares w_far w_queue v_s v_isImage v_taped v_at v_wrongHour v_wrongThing v_soonest v_bestSteps) H locs := hw
    try dsimp only at h
    refine lv_aload_n hx hb dX11_openAt_64 rfl (lv_at hl 1 rfl) ?_
    refine g_get (ci := 11) ha hw 0 1 rfl hi_X11_openAt_11 (by decide) (List.mem_of_getElem? (i := 1) rfl) rfl rfl dX11_openAt_65 ?_
    refine lv_iconst (v := (4 : Int32)) hx hb dX11_openAt_68 (by decide) ?_
    refine g_ald ha hw 1 rfl (vp_in_iff.mpr (by decide)) dX11_openAt_69 ?_
    refine lv_iadd hx hb dX11_openAt_70 ?_
    refine lv_icmp_ge (tgt := 91) hx hb dX11_openAt_71 (by decide) (fun c18 => ?_) (fun c18 => ?_)
    · have h := h.1 c18
      refine lv_iconst (v := (0 : Int32)) hx hb dX11_openAt_91 (by decide) ?_
      refine pl_X11_openAt_92 ha hr ?_ h hw (lv_sub hl [1, 2, 3, 4, 5, 0] rfl)
      · intro x3_19 x4_20 H locs ls h hw hl
        try dsimp only at h
        exact hE14 _ _ _ _ _ h hw (lv_sub hl [0, 1, 2, 3, 4] rfl)
    · have h := h.2 c18
      refine lv_aload_n hx hb dX11_openAt_74 rfl (lv_at hl 1 rfl) ?_
      refine lv_aload_n hx hb dX11_openAt_75 rfl (lv_at hl 1 rfl) ?_
      refine lv_iload hx hb dX11_openAt_76 (lv_at hl 5 rfl) ?_
      refine g_cvi (rm := { frames := 1, cells := 0, slots := 0, locals := 64 }) (wn := (fun (u : Unit) => (w_X11_openAt cy a_this a_s w_refusals w_image w_read w_tape w_told w_met w_best w_kept w_squares w_far w_queue v_s v_isImage v_taped v_at v_wrongHour v_wrongThing v_soonest v_bestSteps))) (As := [.int x4]) ha hw hl.1 (c_X11_roomOf (cy := cy)) (cwV 1 ha.2.2.2.2.1 gX11_openAt_X11_roomOf rfl rfl rfl hq_X11_roomOf ⟨Nat.le_of_ble_eq_true rfl, Nat.le_of_ble_eq_true rfl⟩) [0, 1] [] [0, 1] rfl rfl rfl rfl (by decide) rfl (fun _ => rfl) rfl rfl h rfl rfl (Nat.le_of_ble_eq_true rfl) dX11_openAt_78 ⟨Nat.le_refl _, Nat.le_refl _⟩ (fun r21 u H locs h hw => ?_)
      have hw : wd D A s.heap (w_X11_openAt cy a_this a_s w_refusals w_image w_read w_tape w_told w_met w_best w_kept w_squares w_far w_queue v_s v_isImage v_taped v_at v_wrongHour v_wrongThing v_soonest v_bestSteps) H locs := hw
      try dsimp only at h
      refine g_cvi (rm := { frames := 1, cells := 0, slots := 0, locals := 64 }) (wn := (fun (u : Unit) => (w_X11_openAt cy a_this a_s w_refusals w_image w_read w_tape w_told w_met w_best w_kept w_squares w_far w_queue v_s v_isImage v_taped v_at v_wrongHour v_wrongThing v_soonest v_bestSteps))) (As := [.int r21]) ha hw hl.1 (c_X11_isPlanked (cy := cy)) (cwV 1 ha.2.2.2.2.1 gX11_openAt_X11_isPlanked rfl rfl rfl hq_X11_isPlanked ⟨Nat.le_of_ble_eq_true rfl, Nat.le_of_ble_eq_true rfl⟩) [0, 1] [] [0, 1] rfl rfl rfl rfl (by decide) rfl (fun _ => rfl) rfl rfl h rfl rfl (Nat.le_of_ble_eq_true rfl) dX11_openAt_81 ⟨Nat.le_refl _, Nat.le_refl _⟩ (fun r22 u H locs h hw => ?_)
      have hw : wd D A s.heap (w_X11_openAt cy a_this a_s w_refusals w_image w_read w_tape w_told w_met w_best w_kept w_squares w_far w_queue v_s v_isImage v_taped v_at v_wrongHour v_wrongThing v_soonest v_bestSteps) H locs := hw
      obtain ⟨zr22, h⟩ := h
      try dsimp only at h
      refine lv_if_ne (tgt := 91) hx hb dX11_openAt_84 (by decide) (fun c23 => ?_) (fun c23 => ?_)
      · have h := h.2 c23
        refine lv_iconst (v := (0 : Int32)) hx hb dX11_openAt_91 (by decide) ?_
        refine pl_X11_openAt_92 ha hr ?_ h hw (lv_sub hl [1, 2, 3, 4, 5, 0] rfl)
        · intro x3_24 x4_25 H locs ls h hw hl
          try dsimp only at h
          exact hE14 _ _ _ _ _ h hw (lv_sub hl [0, 1, 2, 3, 4] rfl)
      · have h := h.1 c23
        refine lv_iconst (v := (1 : Int32)) hx hb dX11_openAt_87 (by decide) ?_
        refine lv_goto (tgt := 92) hx hb dX11_openAt_88 (by decide) ?_
        refine pl_X11_openAt_92 ha hr ?_ h hw (lv_sub hl [1, 2, 3, 4, 5, 0] rfl)
        · intro x3_26 x4_27 H locs ls h hw hl
          try dsimp only at h
          exact hE14 _ _ _ _ _ h hw (lv_sub hl [0, 1, 2, 3, 4] rfl)
def wp_X11_openAt_14 (x1 : Int32) (x2 : Int32) (v_s : IA) (K : Int32 → Prop) : Nat → Int32 → Int32 → Prop
  | 0, _, _ => False
  | n + 1, x3, x4 => (x2 ≤ x4 → K x3) ∧ (¬ (x2 ≤ x4) → wp_X11_hourOf x4 v_s (fun (r3 : Int32) => (x1 < r3 → wp_X11_openAt_45 x1 v_s (fun (x3_28 : Int32) (x4_29 : Int32) => wp_X11_openAt_14 x1 x2 v_s K n x3_28 x4_29) K x3 x4 (0 : Int32)) ∧ (¬ (x1 < r3) → wp_X11_endOf x4 v_s (fun (r30 : Int32) => (r30 ≤ x1 → wp_X11_openAt_45 x1 v_s (fun (x3_32 : Int32) (x4_33 : Int32) => wp_X11_openAt_14 x1 x2 v_s K n x3_32 x4_33) K x3 x4 (0 : Int32)) ∧ (¬ (r30 ≤ x1) → wp_X11_openAt_45 x1 v_s (fun (x3_34 : Int32) (x4_35 : Int32) => wp_X11_openAt_14 x1 x2 v_s K n x3_34 x4_35) K x3 x4 (1 : Int32))))))
set_option maxHeartbeats 4000000 in
set_option maxRecDepth 100000 in
theorem pl_X11_openAt_14 {p : Program} {l : Launch} {e : Env} {s : State} {m : MethodId} {args : Array Value} {below : List Frame} {meth : Method} {c : Code} {A : Nat → Prop} {Q : State → Prop} {D : va_G} {cy : ClassId} {a_this a_s : Nat} {w_refusals w_image w_read w_tape w_told w_met w_best w_kept w_squares w_far w_queue : Value} {v_s : IA} {v_isImage : Int32} {v_taped : Int32} {v_at : Int32} {v_wrongHour : Int32} {v_wrongThing : Int32} {v_soonest : Int32} {v_bestSteps : Int32} {x1 : Int32} {x2 : Int32} {K : Int32 → Prop} (ha : am p s m args c cX11_openAt 7 RX11 wsX11_openAt D cy A) (hr : rtI p l e { frames := 3, cells := 0, slots := 0, locals := 234 } s m args below meth c 0 0 Q cX11_openAt D A (fun (u : Unit) => (w_X11_openAt cy a_this a_s w_refusals w_image w_read w_tape w_told w_met w_best w_kept w_squares w_far w_queue v_s v_isImage v_taped v_at v_wrongHour v_wrongThing v_soonest v_bestSteps)) (fun (r : Int32) (u : Unit) => K r)) : ∀ (n : Nat) (x3 : Int32) (x4 : Int32) (H : Heap) (locs : List Loc) (ls : Array Slot), wp_X11_openAt_14 x1 x2 v_s K n x3 x4 → wd D A s.heap (w_X11_openAt cy a_this a_s w_refusals w_image w_read w_tape w_told w_met w_best w_kept w_squares w_far w_queue v_s v_isImage v_taped v_at v_wrongHour v_wrongThing v_soonest v_bestSteps) H locs → lv_has ls 7 [(0, .ref a_this), (1, .int x1), (2, .int x2), (3, .int x3), (4, .int x4)] → W p l e { frames := 3, cells := 0, slots := 0, locals := 234 } s m args below meth c H locs 0 0 Q (F0 m 14 ls []) := by
  have hx := ha.1
  have hb := ha.2.1
  intro n
  induction n with
  | zero => exact fun _ _ _ _ _ h _ _ => False.elim h
  | succ n ih =>
    intro x3 x4 H locs ls h hw hl
    have h : (x2 ≤ x4 → K x3) ∧ (¬ (x2 ≤ x4) → wp_X11_hourOf x4 v_s (fun (r3 : Int32) => (x1 < r3 → wp_X11_openAt_45 x1 v_s (fun (x3_28 : Int32) (x4_29 : Int32) => wp_X11_openAt_14 x1 x2 v_s K n x3_28 x4_29) K x3 x4 (0 : Int32)) ∧ (¬ (x1 < r3) → wp_X11_endOf x4 v_s (fun (r30 : Int32) => (r30 ≤ x1 → wp_X11_openAt_45 x1 v_s (fun (x3_32 : Int32) (x4_33 : Int32) => wp_X11_openAt_14 x1 x2 v_s K n x3_32 x4_33) K x3 x4 (0 : Int32)) ∧ (¬ (r30 ≤ x1) → wp_X11_openAt_45 x1 v_s (fun (x3_34 : Int32) (x4_35 : Int32) => wp_X11_openAt_14 x1 x2 v_s K n x3_34 x4_35) K x3 x4 (1 : Int32)))))) := h
    refine lv_iload hx hb dX11_openAt_14 (lv_at hl 4 rfl) ?_
    refine lv_iload_n hx hb dX11_openAt_16 rfl (lv_at hl 2 rfl) ?_
    refine lv_icmp_ge (tgt := 123) hx hb dX11_openAt_17 (by decide) (fun c2 => ?_) (fun c2 => ?_)
    · have h := h.1 c2
      refine lv_iload_n hx hb dX11_openAt_123 rfl (lv_at hl 3 rfl) ?_
      exact hr _ _ () _ _ _ dX11_openAt_124 h hw
    · have h := h.2 c2
      refine lv_iload_n hx hb dX11_openAt_20 rfl (lv_at hl 1 rfl) ?_
      refine lv_aload_n hx hb dX11_openAt_21 rfl (lv_at hl 0 rfl) ?_
      refine lv_iload hx hb dX11_openAt_22 (lv_at hl 4 rfl) ?_
      refine g_cvi (rm := { frames := 1, cells := 0, slots := 0, locals := 64 }) (wn := (fun (u : Unit) => (w_X11_openAt cy a_this a_s w_refusals w_image w_read w_tape w_told w_met w_best w_kept w_squares w_far w_queue v_s v_isImage v_taped v_at v_wrongHour v_wrongThing v_soonest v_bestSteps))) (As := [.int x4]) ha hw hl.1 (c_X11_hourOf (cy := cy)) (cwV 1 ha.2.2.2.2.1 gX11_openAt_X11_hourOf rfl rfl rfl hq_X11_hourOf ⟨Nat.le_of_ble_eq_true rfl, Nat.le_of_ble_eq_true rfl⟩) [0, 1] [] [0, 1] rfl rfl rfl rfl (by decide) rfl (fun _ => rfl) rfl rfl h rfl rfl (Nat.le_of_ble_eq_true rfl) dX11_openAt_24 ⟨Nat.le_refl _, Nat.le_refl _⟩ (fun r3 u H locs h hw => ?_)
      have hw : wd D A s.heap (w_X11_openAt cy a_this a_s w_refusals w_image w_read w_tape w_told w_met w_best w_kept w_squares w_far w_queue v_s v_isImage v_taped v_at v_wrongHour v_wrongThing v_soonest v_bestSteps) H locs := hw
      try dsimp only at h
      refine lv_icmp_lt (tgt := 44) hx hb dX11_openAt_27 (by decide) (fun c4 => ?_) (fun c4 => ?_)
      · have h := h.1 c4
        refine lv_iconst (v := (0 : Int32)) hx hb dX11_openAt_44 (by decide) ?_
        refine pl_X11_openAt_45 ha hr ?_ h hw (lv_sub hl [0, 1, 2, 3, 4] rfl)
        · intro x3_28 x4_29 H locs ls h hw hl
          try dsimp only at h
          exact ih _ _ _ _ _ h hw (lv_sub hl [0, 1, 2, 3, 4] rfl)
      · have h := h.2 c4
        refine lv_iload_n hx hb dX11_openAt_30 rfl (lv_at hl 1 rfl) ?_
        refine lv_aload_n hx hb dX11_openAt_31 rfl (lv_at hl 0 rfl) ?_
        refine lv_iload hx hb dX11_openAt_32 (lv_at hl 4 rfl) ?_
        refine g_cvi (rm := { frames := 2, cells := 0, slots := 0, locals := 149 }) (wn := (fun (u : Unit) => (w_X11_openAt cy a_this a_s w_refusals w_image w_read w_tape w_told w_met w_best w_kept w_squares w_far w_queue v_s v_isImage v_taped v_at v_wrongHour v_wrongThing v_soonest v_bestSteps))) (As := [.int x4]) ha hw hl.1 (c_X11_endOf (cy := cy)) (cwV 1 ha.2.2.2.2.1 gX11_openAt_X11_endOf rfl rfl rfl hq_X11_endOf ⟨Nat.le_of_ble_eq_true rfl, Nat.le_of_ble_eq_true rfl⟩) [0, 1] [] [0, 1] rfl rfl rfl rfl (by decide) rfl (fun _ => rfl) rfl rfl h rfl rfl (Nat.le_of_ble_eq_true rfl) dX11_openAt_34 ⟨Nat.le_refl _, Nat.le_refl _⟩ (fun r30 u H locs h hw => ?_)
        have hw : wd D A s.heap (w_X11_openAt cy a_this a_s w_refusals w_image w_read w_tape w_told w_met w_best w_kept w_squares w_far w_queue v_s v_isImage v_taped v_at v_wrongHour v_wrongThing v_soonest v_bestSteps) H locs := hw
        try dsimp only at h
        refine lv_icmp_ge (tgt := 44) hx hb dX11_openAt_37 (by decide) (fun c31 => ?_) (fun c31 => ?_)
        · have h := h.1 c31
          refine lv_iconst (v := (0 : Int32)) hx hb dX11_openAt_44 (by decide) ?_
          refine pl_X11_openAt_45 ha hr ?_ h hw (lv_sub hl [0, 1, 2, 3, 4] rfl)
          · intro x3_32 x4_33 H locs ls h hw hl
            try dsimp only at h
            exact ih _ _ _ _ _ h hw (lv_sub hl [0, 1, 2, 3, 4] rfl)
        · have h := h.2 c31
          refine lv_iconst (v := (1 : Int32)) hx hb dX11_openAt_40 (by decide) ?_
          refine lv_goto (tgt := 45) hx hb dX11_openAt_41 (by decide) ?_
          refine pl_X11_openAt_45 ha hr ?_ h hw (lv_sub hl [0, 1, 2, 3, 4] rfl)
          · intro x3_34 x4_35 H locs ls h hw hl
            try dsimp only at h
            exact ih _ _ _ _ _ h hw (lv_sub hl [0, 1, 2, 3, 4] rfl)
def wp_X11_openAt (x1 : Int32) (x2 : Int32) (v_s : IA) (K : Int32 → Prop) : Prop := ∀ x3_1 : Int32, x3_1 = ((1 : Int32) <<< ((v_s (0 : Int32).toNatClampNeg) &&& 31)) - (1 : Int32) → ∃ n36 : Nat, wp_X11_openAt_14 x1 x2 v_s K n36 x3_1 (0 : Int32)
set_option maxHeartbeats 4000000 in
set_option maxRecDepth 100000 in
theorem c_X11_openAt {l : Launch} {D : va_G} {cy : ClassId} {a_this a_s : Nat} {w_refusals w_image w_read w_tape w_told w_met w_best w_kept w_squares w_far w_queue : Value} {v_s : IA} {v_isImage : Int32} {v_taped : Int32} {v_at : Int32} {v_wrongHour : Int32} {v_wrongThing : Int32} {v_soonest : Int32} {v_bestSteps : Int32} {x1 : Int32} {x2 : Int32} {K : Int32 → Prop} : CtI l yX11_openAt wsX11_openAt { frames := 3, cells := 0, slots := 0, locals := 234 } 0 0 D cy [.ref a_this, .int x1, .int x2] (w_X11_openAt cy a_this a_s w_refusals w_image w_read w_tape w_told w_met w_best w_kept w_squares w_far w_queue v_s v_isImage v_taped v_at v_wrongHour v_wrongThing v_soonest v_bestSteps) (wp_X11_openAt x1 x2 v_s K) (fun (u : Unit) => (w_X11_openAt cy a_this a_s w_refusals w_image w_read w_tape w_told w_met w_best w_kept w_squares w_far w_queue v_s v_isImage v_taped v_at v_wrongHour v_wrongThing v_soonest v_bestSteps)) (fun (r : Int32) (u : Unit) => K r) := by
  refine CtI.mk (cc := cX11_openAt) (nL := 7) (ty := .int) (by decide) rfl (Nat.le_of_ble_eq_true rfl) (fun r u h => rfl) ?_
  intro p e s m args below meth c A Q ha hr _ h ls hl hw
  have ha : am p s m args c cX11_openAt 7 RX11 wsX11_openAt D cy A := ha
  have hx := ha.1
  have hb := ha.2.1
  have hl : lv_has ls 7 [(0, .ref a_this), (1, .int x1), (2, .int x2)] := hl
  have h : ∀ x3_1 : Int32, x3_1 = ((1 : Int32) <<< ((v_s (0 : Int32).toNatClampNeg) &&& 31)) - (1 : Int32) → ∃ n36 : Nat, wp_X11_openAt_14 x1 x2 v_s K n36 x3_1 (0 : Int32) := h
  refine lv_iconst (v := (1 : Int32)) hx hb dX11_openAt_0 (by decide) ?_
  refine lv_aload_n hx hb dX11_openAt_1 rfl (lv_at hl 0 rfl) ?_
  refine g_get (ci := 11) ha hw 0 1 rfl hi_X11_openAt_11 (by decide) (List.mem_of_getElem? (i := 1) rfl) rfl rfl dX11_openAt_2 ?_
  refine lv_iconst (v := (0 : Int32)) hx hb dX11_openAt_5 (by decide) ?_
  refine g_ald ha hw 1 rfl (vp_in_iff.mpr (by decide)) dX11_openAt_6 ?_
  refine lv_ishl hx hb dX11_openAt_7 ?_
  refine lv_iconst (v := (1 : Int32)) hx hb dX11_openAt_8 (by decide) ?_
  refine lv_isub hx hb dX11_openAt_9 ?_
  refine lv_topi (fun x3_1 ex3_1 => ?_)
  have h := h x3_1 ex3_1
  refine lv_istore_n (lv' := [(3, .int x3_1), (0, .ref a_this), (1, .int x1), (2, .int x2)]) hx hb dX11_openAt_10 rfl hl (by decide) rfl (fun ls hl => ?_)
  refine lv_iconst (v := (0 : Int32)) hx hb dX11_openAt_11 (by decide) ?_
  refine lv_istore (lv' := [(4, .int (0 : Int32)), (3, .int x3_1), (0, .ref a_this), (1, .int x1), (2, .int x2)]) hx hb dX11_openAt_12 hl (by decide) rfl (fun ls hl => ?_)
  obtain ⟨n9, h⟩ := h
  refine pl_X11_openAt_14 ha hr n9 _ _ _ _ _ h hw (lv_sub hl [2, 3, 4, 1, 0] rfl)
theorem hq_X11_besideOf : yX11_besideOf.cls = RX11 ∧ yX11_besideOf.cls ≠ "java/lang/invoke/MethodHandle" ∧ yX11_besideOf.cls ≠ "java/lang/invoke/VarHandle" ∧ (parseMethodDescriptor yX11_besideOf.desc).map (fun d => d.parameters.length) = some 1 := by decide +kernel
def w_X11_besideOf (cy : ClassId) (a_this a_s : Nat) (w_refusals w_image w_read w_tape w_told w_met w_best w_kept w_squares w_far w_queue : Value) (v_s : IA) (v_isImage : Int32) (v_taped : Int32) (v_at : Int32) (v_wrongHour : Int32) (v_wrongThing : Int32) (v_soonest : Int32) (v_bestSteps : Int32) : va_W := [(a_this, .inr (11, [w_refusals, .ref a_s, w_image, w_read, .int v_isImage, w_tape, w_told, .int v_taped, .int v_at, w_met, .int v_wrongHour, .int v_wrongThing, w_best, w_kept, .int v_soonest, .int v_bestSteps, w_squares, w_far, w_queue])), (a_s, .inl (cy, 120, .inl v_s))]
theorem hi_X11_besideOf_11 : ∀ w ∈ u_ws RX11 TX11 19, w ∈ wsX11_besideOf := fun _ h => List.mem_cons_of_mem _ (List.mem_append_right _ h)
def wp_X11_besideOf_47 (x1 : Int32) (v_s : IA) (E4 : Int32 → Int32 → Prop) (K : Int32 → Prop) (x2 : Int32) (x3 : Int32) : Prop := vp_in (((21 : Int32) + ((2 : Int32) * x3)) + (1 : Int32)) 120 ∧ (((v_s (((21 : Int32) + ((2 : Int32) * x3)) + (1 : Int32)).toNatClampNeg) = x1 → vp_in ((21 : Int32) + ((2 : Int32) * x3)) 120 ∧ (∀ x2_7 : Int32, x2_7 = x2 ||| ((1 : Int32) <<< ((v_s ((21 : Int32) + ((2 : Int32) * x3)).toNatClampNeg) &&& 31)) → E4 x2_7 (x3 + (1 : Int32)))) ∧ (¬ ((v_s (((21 : Int32) + ((2 : Int32) * x3)) + (1 : Int32)).toNatClampNeg) = x1) → E4 x2 (x3 + (1 : Int32))))
set_option maxHeartbeats 4000000 in
set_option maxRecDepth 100000 in
theorem pl_X11_besideOf_47 {p : Program} {l : Launch} {e : Env} {s : State} {m : MethodId} {args : Array Value} {below : List Frame} {meth : Method} {c : Code} {A : Nat → Prop} {Q : State → Prop} {D : va_G} {cy : ClassId} {a_this a_s : Nat} {w_refusals w_image w_read w_tape w_told w_met w_best w_kept w_squares w_far w_queue : Value} {v_s : IA} {v_isImage : Int32} {v_taped : Int32} {v_at : Int32} {v_wrongHour : Int32} {v_wrongThing : Int32} {v_soonest : Int32} {v_bestSteps : Int32} {x1 : Int32} {K : Int32 → Prop} {E4 : Int32 → Int32 → Prop} (ha : am p s m args c cX11_besideOf 4 RX11 wsX11_besideOf D cy A) (hr : rtI p l e { frames := 1, cells := 0, slots := 0, locals := 64 } s m args below meth c 0 0 Q cX11_besideOf D A (fun (u : Unit) => (w_X11_besideOf cy a_this a_s w_refusals w_image w_read w_tape w_told w_met w_best w_kept w_squares w_far w_queue v_s v_isImage v_taped v_at v_wrongHour v_wrongThing v_soonest v_bestSteps)) (fun (r : Int32) (u : Unit) => K r)) (hE4 : ∀ (x2' : Int32) (x3' : Int32) (H : Heap) (locs : List Loc) (ls : Array Slot), E4 x2' x3' → wd D A s.heap (w_X11_besideOf cy a_this a_s w_refusals w_image w_read w_tape w_told w_met w_best w_kept w_squares w_far w_queue v_s v_isImage v_taped v_at v_wrongHour v_wrongThing v_soonest v_bestSteps) H locs → lv_has ls 4 [(0, .ref a_this), (1, .int x1), (2, .int x2'), (3, .int x3')] → W p l e { frames := 1, cells := 0, slots := 0, locals := 64 } s m args below meth c H locs 0 0 Q (F0 m 4 ls [])) {x2 : Int32} {x3 : Int32} {H : Heap} {locs : List Loc} {ls : Array Slot} : wp_X11_besideOf_47 x1 v_s E4 K x2 x3 → wd D A s.heap (w_X11_besideOf cy a_this a_s w_refusals w_image w_read w_tape w_told w_met w_best w_kept w_squares w_far w_queue v_s v_isImage v_taped v_at v_wrongHour v_wrongThing v_soonest v_bestSteps) H locs → lv_has ls 4 [(0, .ref a_this), (1, .int x1), (2, .int x2), (3, .int x3)] → W p l e { frames := 1, cells := 0, slots := 0, locals := 64 } s m args below meth c H locs 0 0 Q (F0 m 47 ls []) := by
  have hx := ha.1
  have hb := ha.2.1
  intro h hw hl
  have h : vp_in (((21 : Int32) + ((2 : Int32) * x3)) + (1 : Int32)) 120 ∧ (((v_s (((21 : Int32) + ((2 : Int32) * x3)) + (1 : Int32)).toNatClampNeg) = x1 → vp_in ((21 : Int32) + ((2 : Int32) * x3)) 120 ∧ (∀ x2_7 : Int32, x2_7 = x2 ||| ((1 : Int32) <<< ((v_s ((21 : Int32) + ((2 : Int32) * x3)).toNatClampNeg) &&& 31)) → E4 x2_7 (x3 + (1 : Int32)))) ∧ (¬ ((v_s (((21 : Int32) + ((2 : Int32) * x3)) + (1 : Int32)).toNatClampNeg) = x1) → E4 x2 (x3 + (1 : Int32)))) := h
  refine lv_aload_n hx hb dX11_besideOf_47 rfl (lv_at hl 0 rfl) ?_
  refine g_get (ci := 11) ha hw 0 1 rfl hi_X11_besideOf_11 (by decide) (List.mem_of_getElem? (i := 1) rfl) rfl rfl dX11_besideOf_48 ?_
  refine lv_bipush (v := (21 : Int32)) hx hb dX11_besideOf_51 (by decide) ?_
  refine lv_iconst (v := (2 : Int32)) hx hb dX11_besideOf_53 (by decide) ?_
  refine lv_iload_n hx hb dX11_besideOf_54 rfl (lv_at hl 3 rfl) ?_
  refine lv_imul hx hb dX11_besideOf_55 ?_
  refine lv_iadd hx hb dX11_besideOf_56 ?_
  refine lv_iconst (v := (1 : Int32)) hx hb dX11_besideOf_57 (by decide) ?_
  refine lv_iadd hx hb dX11_besideOf_58 ?_
  obtain ⟨z4, h⟩ := h
  refine g_ald ha hw 1 rfl z4 dX11_besideOf_59 ?_
  refine lv_iload_n hx hb dX11_besideOf_60 rfl (lv_at hl 1 rfl) ?_
  refine lv_icmp_ne (tgt := 80) hx hb dX11_besideOf_61 (by decide) (fun c5 => ?_) (fun c5 => ?_)
  · have h := h.2 c5
    refine lv_iinc (v := x3 + (1 : Int32)) (lv' := [(3, .int (x3 + (1 : Int32))), (0, .ref a_this), (1, .int x1), (2, .int x2)]) hx hb dX11_besideOf_80 hl (k := 3) rfl rfl (by decide) rfl (fun ls hl => ?_)
    refine lv_goto (tgt := 4) hx hb dX11_besideOf_83 (by decide) ?_
    exact hE4 _ _ _ _ _ h hw (lv_sub hl [1, 2, 3, 0] rfl)
  · have h := h.1 c5
    refine lv_iload_n hx hb dX11_besideOf_64 rfl (lv_at hl 2 rfl) ?_
    refine lv_iconst (v := (1 : Int32)) hx hb dX11_besideOf_65 (by decide) ?_
    refine lv_aload_n hx hb dX11_besideOf_66 rfl (lv_at hl 0 rfl) ?_
    refine g_get (ci := 11) ha hw 0 1 rfl hi_X11_besideOf_11 (by decide) (List.mem_of_getElem? (i := 1) rfl) rfl rfl dX11_besideOf_67 ?_
    refine lv_bipush (v := (21 : Int32)) hx hb dX11_besideOf_70 (by decide) ?_
    refine lv_iconst (v := (2 : Int32)) hx hb dX11_besideOf_72 (by decide) ?_
    refine lv_iload_n hx hb dX11_besideOf_73 rfl (lv_at hl 3 rfl) ?_
    refine lv_imul hx hb dX11_besideOf_74 ?_
    refine lv_iadd hx hb dX11_besideOf_75 ?_
    obtain ⟨z6, h⟩ := h
    refine g_ald ha hw 1 rfl z6 dX11_besideOf_76 ?_
    refine lv_ishl hx hb dX11_besideOf_77 ?_
    refine lv_ior hx hb dX11_besideOf_78 ?_
    refine lv_topi (fun x2_7 ex2_7 => ?_)
    have h := h x2_7 ex2_7
    refine lv_istore_n (lv' := [(2, .int x2_7), (0, .ref a_this), (1, .int x1), (3, .int x3)]) hx hb dX11_besideOf_79 rfl hl (by decide) rfl (fun ls hl => ?_)
    refine lv_iinc (v := x3 + (1 : Int32)) (lv' := [(3, .int (x3 + (1 : Int32))), (2, .int x2_7), (0, .ref a_this), (1, .int x1)]) hx hb dX11_besideOf_80 hl (k := 3) rfl rfl (by decide) rfl (fun ls hl => ?_)
    refine lv_goto (tgt := 4) hx hb dX11_besideOf_83 (by decide) ?_
    exact hE4 _ _ _ _ _ h hw (lv_sub hl [2, 3, 1, 0] rfl)
def wp_X11_besideOf_4 (x1 : Int32) (v_s : IA) (K : Int32 → Prop) : Nat → Int32 → Int32 → Prop
  | 0, _, _ => False
  | n + 1, x2, x3 => ((v_s (1 : Int32).toNatClampNeg) ≤ x3 → K x2) ∧ (¬ ((v_s (1 : Int32).toNatClampNeg) ≤ x3) → vp_in ((21 : Int32) + ((2 : Int32) * x3)) 120 ∧ (((v_s ((21 : Int32) + ((2 : Int32) * x3)).toNatClampNeg) = x1 → vp_in (((21 : Int32) + ((2 : Int32) * x3)) + (1 : Int32)) 120 ∧ (∀ x2_11 : Int32, x2_11 = x2 ||| ((1 : Int32) <<< ((v_s (((21 : Int32) + ((2 : Int32) * x3)) + (1 : Int32)).toNatClampNeg) &&& 31)) → wp_X11_besideOf_47 x1 v_s (fun (x2_12 : Int32) (x3_13 : Int32) => wp_X11_besideOf_4 x1 v_s K n x2_12 x3_13) K x2_11 x3)) ∧ (¬ ((v_s ((21 : Int32) + ((2 : Int32) * x3)).toNatClampNeg) = x1) → wp_X11_besideOf_47 x1 v_s (fun (x2_8 : Int32) (x3_9 : Int32) => wp_X11_besideOf_4 x1 v_s K n x2_8 x3_9) K x2 x3)))
set_option maxHeartbeats 4000000 in
set_option maxRecDepth 100000 in
theorem pl_X11_besideOf_4 {p : Program} {l : Launch} {e : Env} {s : State} {m : MethodId} {args : Array Value} {below : List Frame} {meth : Method} {c : Code} {A : Nat → Prop} {Q : State → Prop} {D : va_G} {cy : ClassId} {a_this a_s : Nat} {w_refusals w_image w_read w_tape w_told w_met w_best w_kept w_squares w_far w_queue : Value} {v_s : IA} {v_isImage : Int32} {v_taped : Int32} {v_at : Int32} {v_wrongHour : Int32} {v_wrongThing : Int32} {v_soonest : Int32} {v_bestSteps : Int32} {x1 : Int32} {K : Int32 → Prop} (ha : am p s m args c cX11_besideOf 4 RX11 wsX11_besideOf D cy A) (hr : rtI p l e { frames := 1, cells := 0, slots := 0, locals := 64 } s m args below meth c 0 0 Q cX11_besideOf D A (fun (u : Unit) => (w_X11_besideOf cy a_this a_s w_refusals w_image w_read w_tape w_told w_met w_best w_kept w_squares w_far w_queue v_s v_isImage v_taped v_at v_wrongHour v_wrongThing v_soonest v_bestSteps)) (fun (r : Int32) (u : Unit) => K r)) : ∀ (n : Nat) (x2 : Int32) (x3 : Int32) (H : Heap) (locs : List Loc) (ls : Array Slot), wp_X11_besideOf_4 x1 v_s K n x2 x3 → wd D A s.heap (w_X11_besideOf cy a_this a_s w_refusals w_image w_read w_tape w_told w_met w_best w_kept w_squares w_far w_queue v_s v_isImage v_taped v_at v_wrongHour v_wrongThing v_soonest v_bestSteps) H locs → lv_has ls 4 [(0, .ref a_this), (1, .int x1), (2, .int x2), (3, .int x3)] → W p l e { frames := 1, cells := 0, slots := 0, locals := 64 } s m args below meth c H locs 0 0 Q (F0 m 4 ls []) := by
  have hx := ha.1
  have hb := ha.2.1
  intro n
  induction n with
  | zero => exact fun _ _ _ _ _ h _ _ => False.elim h
  | succ n ih =>
    intro x2 x3 H locs ls h hw hl
    have h : ((v_s (1 : Int32).toNatClampNeg) ≤ x3 → K x2) ∧ (¬ ((v_s (1 : Int32).toNatClampNeg) ≤ x3) → vp_in ((21 : Int32) + ((2 : Int32) * x3)) 120 ∧ (((v_s ((21 : Int32) + ((2 : Int32) * x3)).toNatClampNeg) = x1 → vp_in (((21 : Int32) + ((2 : Int32) * x3)) + (1 : Int32)) 120 ∧ (∀ x2_11 : Int32, x2_11 = x2 ||| ((1 : Int32) <<< ((v_s (((21 : Int32) + ((2 : Int32) * x3)) + (1 : Int32)).toNatClampNeg) &&& 31)) → wp_X11_besideOf_47 x1 v_s (fun (x2_12 : Int32) (x3_13 : Int32) => wp_X11_besideOf_4 x1 v_s K n x2_12 x3_13) K x2_11 x3)) ∧ (¬ ((v_s ((21 : Int32) + ((2 : Int32) * x3)).toNatClampNeg) = x1) → wp_X11_besideOf_47 x1 v_s (fun (x2_8 : Int32) (x3_9 : Int32) => wp_X11_besideOf_4 x1 v_s K n x2_8 x3_9) K x2 x3))) := h
    refine lv_iload_n hx hb dX11_besideOf_4 rfl (lv_at hl 3 rfl) ?_
    refine lv_aload_n hx hb dX11_besideOf_5 rfl (lv_at hl 0 rfl) ?_
    refine g_get (ci := 11) ha hw 0 1 rfl hi_X11_besideOf_11 (by decide) (List.mem_of_getElem? (i := 1) rfl) rfl rfl dX11_besideOf_6 ?_
    refine lv_iconst (v := (1 : Int32)) hx hb dX11_besideOf_9 (by decide) ?_
    refine g_ald ha hw 1 rfl (vp_in_iff.mpr (by decide)) dX11_besideOf_10 ?_
    refine lv_icmp_ge (tgt := 86) hx hb dX11_besideOf_11 (by decide) (fun c1 => ?_) (fun c1 => ?_)
    · have h := h.1 c1
      refine lv_iload_n hx hb dX11_besideOf_86 rfl (lv_at hl 2 rfl) ?_
      exact hr _ _ () _ _ _ dX11_besideOf_87 h hw
    · have h := h.2 c1
      refine lv_aload_n hx hb dX11_besideOf_14 rfl (lv_at hl 0 rfl) ?_
      refine g_get (ci := 11) ha hw 0 1 rfl hi_X11_besideOf_11 (by decide) (List.mem_of_getElem? (i := 1) rfl) rfl rfl dX11_besideOf_15 ?_
      refine lv_bipush (v := (21 : Int32)) hx hb dX11_besideOf_18 (by decide) ?_
      refine lv_iconst (v := (2 : Int32)) hx hb dX11_besideOf_20 (by decide) ?_
      refine lv_iload_n hx hb dX11_besideOf_21 rfl (lv_at hl 3 rfl) ?_
      refine lv_imul hx hb dX11_besideOf_22 ?_
      refine lv_iadd hx hb dX11_besideOf_23 ?_
      obtain ⟨z2, h⟩ := h
      refine g_ald ha hw 1 rfl z2 dX11_besideOf_24 ?_
      refine lv_iload_n hx hb dX11_besideOf_25 rfl (lv_at hl 1 rfl) ?_
      refine lv_icmp_ne (tgt := 47) hx hb dX11_besideOf_26 (by decide) (fun c3 => ?_) (fun c3 => ?_)
      · have h := h.2 c3
        refine pl_X11_besideOf_47 ha hr ?_ h hw (lv_sub hl [0, 1, 2, 3] rfl)
        · intro x2_8 x3_9 H locs ls h hw hl
          try dsimp only at h
          exact ih _ _ _ _ _ h hw (lv_sub hl [0, 1, 2, 3] rfl)
      · have h := h.1 c3
        refine lv_iload_n hx hb dX11_besideOf_29 rfl (lv_at hl 2 rfl) ?_
        refine lv_iconst (v := (1 : Int32)) hx hb dX11_besideOf_30 (by decide) ?_
        refine lv_aload_n hx hb dX11_besideOf_31 rfl (lv_at hl 0 rfl) ?_
        refine g_get (ci := 11) ha hw 0 1 rfl hi_X11_besideOf_11 (by decide) (List.mem_of_getElem? (i := 1) rfl) rfl rfl dX11_besideOf_32 ?_
        refine lv_bipush (v := (21 : Int32)) hx hb dX11_besideOf_35 (by decide) ?_
        refine lv_iconst (v := (2 : Int32)) hx hb dX11_besideOf_37 (by decide) ?_
        refine lv_iload_n hx hb dX11_besideOf_38 rfl (lv_at hl 3 rfl) ?_
        refine lv_imul hx hb dX11_besideOf_39 ?_
        refine lv_iadd hx hb dX11_besideOf_40 ?_
        refine lv_iconst (v := (1 : Int32)) hx hb dX11_besideOf_41 (by decide) ?_
        refine lv_iadd hx hb dX11_besideOf_42 ?_
        obtain ⟨z10, h⟩ := h
        refine g_ald ha hw 1 rfl z10 dX11_besideOf_43 ?_
        refine lv_ishl hx hb dX11_besideOf_44 ?_
        refine lv_ior hx hb dX11_besideOf_45 ?_
        refine lv_topi (fun x2_11 ex2_11 => ?_)
        have h := h x2_11 ex2_11
        refine lv_istore_n (lv' := [(2, .int x2_11), (0, .ref a_this), (1, .int x1), (3, .int x3)]) hx hb dX11_besideOf_46 rfl hl (by decide) rfl (fun ls hl => ?_)
        refine pl_X11_besideOf_47 ha hr ?_ h hw (lv_sub hl [1, 2, 0, 3] rfl)
        · intro x2_12 x3_13 H locs ls h hw hl
          try dsimp only at h
          exact ih _ _ _ _ _ h hw (lv_sub hl [0, 1, 2, 3] rfl)
def wp_X11_besideOf (x1 : Int32) (v_s : IA) (K : Int32 → Prop) : Prop := ∃ n14 : Nat, wp_X11_besideOf_4 x1 v_s K n14 (0 : Int32) (0 : Int32)
set_option maxHeartbeats 4000000 in
set_option maxRecDepth 100000 in
theorem c_X11_besideOf {l : Launch} {D : va_G} {cy : ClassId} {a_this a_s : Nat} {w_refusals w_image w_read w_tape w_told w_met w_best w_kept w_squares w_far w_queue : Value} {v_s : IA} {v_isImage : Int32} {v_taped : Int32} {v_at : Int32} {v_wrongHour : Int32} {v_wrongThing : Int32} {v_soonest : Int32} {v_bestSteps : Int32} {x1 : Int32} {K : Int32 → Prop} : CtI l yX11_besideOf wsX11_besideOf { frames := 1, cells := 0, slots := 0, locals := 64 } 0 0 D cy [.ref a_this, .int x1] (w_X11_besideOf cy a_this a_s w_refusals w_image w_read w_tape w_told w_met w_best w_kept w_squares w_far w_queue v_s v_isImage v_taped v_at v_wrongHour v_wrongThing v_soonest v_bestSteps) (wp_X11_besideOf x1 v_s K) (fun (u : Unit) => (w_X11_besideOf cy a_this a_s w_refusals w_image w_read w_tape w_told w_met w_best w_kept w_squares w_far w_queue v_s v_isImage v_taped v_at v_wrongHour v_wrongThing v_soonest v_bestSteps)) (fun (r : Int32) (u : Unit) => K r) := by
  refine CtI.mk (cc := cX11_besideOf) (nL := 4) (ty := .int) (by decide) rfl (Nat.le_of_ble_eq_true rfl) (fun r u h => rfl) ?_
  intro p e s m args below meth c A Q ha hr _ h ls hl hw
  have ha : am p s m args c cX11_besideOf 4 RX11 wsX11_besideOf D cy A := ha
  have hx := ha.1
  have hb := ha.2.1
  have hl : lv_has ls 4 [(0, .ref a_this), (1, .int x1)] := hl
  have h : ∃ n14 : Nat, wp_X11_besideOf_4 x1 v_s K n14 (0 : Int32) (0 : Int32) := h
  refine lv_iconst (v := (0 : Int32)) hx hb dX11_besideOf_0 (by decide) ?_
  refine lv_istore_n (lv' := [(2, .int (0 : Int32)), (0, .ref a_this), (1, .int x1)]) hx hb dX11_besideOf_1 rfl hl (by decide) rfl (fun ls hl => ?_)
  refine lv_iconst (v := (0 : Int32)) hx hb dX11_besideOf_2 (by decide) ?_
  refine lv_istore_n (lv' := [(3, .int (0 : Int32)), (2, .int (0 : Int32)), (0, .ref a_this), (1, .int x1)]) hx hb dX11_besideOf_3 rfl hl (by decide) rfl (fun ls hl => ?_)
  obtain ⟨n9, h⟩ := h
  refine pl_X11_besideOf_4 ha hr n9 _ _ _ _ _ h hw (lv_sub hl [2, 3, 1, 0] rfl)
theorem hq_X11_wayOf : yX11_wayOf.cls = RX11 ∧ yX11_wayOf.cls ≠ "java/lang/invoke/MethodHandle" ∧ yX11_wayOf.cls ≠ "java/lang/invoke/VarHandle" ∧ (parseMethodDescriptor yX11_wayOf.desc).map (fun d => d.parameters.length) = some 3 := by decide +kernel
def w_X11_wayOf (cy : ClassId) (a_this a_s : Nat) (w_refusals w_image w_read w_tape w_told w_met w_best w_kept w_squares w_far w_queue : Value) (v_s : IA) (v_isImage : Int32) (v_taped : Int32) (v_at : Int32) (v_wrongHour : Int32) (v_wrongThing : Int32) (v_soonest : Int32) (v_bestSteps : Int32) : va_W := [(a_this, .inr (11, [w_refusals, .ref a_s, w_image, w_read, .int v_isImage, w_tape, w_told, .int v_taped, .int v_at, w_met, .int v_wrongHour, .int v_wrongThing, w_best, w_kept, .int v_soonest, .int v_bestSteps, w_squares, w_far, w_queue])), (a_s, .inl (cy, 120, .inl v_s))]
theorem hi_X11_wayOf_11 : ∀ w ∈ u_ws RX11 TX11 19, w ∈ wsX11_wayOf := fun _ h => List.mem_cons_of_mem _ (List.mem_append_right _ h)
def wp_X11_wayOf_37 (x3 : Int32) (v_s : IA) (E10 : Int32 → Int32 → Prop) (K : Int32 → Prop) : Nat → Int32 → Int32 → Int32 → Int32 → Prop
  | 0, _, _, _, _ => False
  | n + 1, x4, x5, x6, x7 => ((v_s (0 : Int32).toNatClampNeg) ≤ x7 → E10 x6 (x5 + (1 : Int32))) ∧ (¬ ((v_s (0 : Int32).toNatClampNeg) ≤ x7) → (((x4 >>> (x7 &&& 31)) &&& (1 : Int32)) = (1 : Int32) → wp_X11_besideOf x7 v_s (fun (r6 : Int32) => ∀ x6_7 : Int32, x6_7 = x6 ||| (r6 &&& x3) → wp_X11_wayOf_37 x3 v_s E10 K n x4 x5 x6_7 (x7 + (1 : Int32)))) ∧ (¬ (((x4 >>> (x7 &&& 31)) &&& (1 : Int32)) = (1 : Int32)) → wp_X11_wayOf_37 x3 v_s E10 K n x4 x5 x6 (x7 + (1 : Int32))))
set_option maxHeartbeats 4000000 in
set_option maxRecDepth 100000 in
theorem pl_X11_wayOf_37 {p : Program} {l : Launch} {e : Env} {s : State} {m : MethodId} {args : Array Value} {below : List Frame} {meth : Method} {c : Code} {A : Nat → Prop} {Q : State → Prop} {D : va_G} {cy : ClassId} {a_this a_s : Nat} {w_refusals w_image w_read w_tape w_told w_met w_best w_kept w_squares w_far w_queue : Value} {v_s : IA} {v_isImage : Int32} {v_taped : Int32} {v_at : Int32} {v_wrongHour : Int32} {v_wrongThing : Int32} {v_soonest : Int32} {v_bestSteps : Int32} {x3 : Int32} {x2 : Int32} {K : Int32 → Prop} {E10 : Int32 → Int32 → Prop} (ha : am p s m args c cX11_wayOf 8 RX11 wsX11_wayOf D cy A) (hr : rtI p l e { frames := 2, cells := 0, slots := 0, locals := 151 } s m args below meth c 0 0 Q cX11_wayOf D A (fun (u : Unit) => (w_X11_wayOf cy a_this a_s w_refusals w_image w_read w_tape w_told w_met w_best w_kept w_squares w_far w_queue v_s v_isImage v_taped v_at v_wrongHour v_wrongThing v_soonest v_bestSteps)) (fun (r : Int32) (u : Unit) => K r)) (hE10 : ∀ (x4' : Int32) (x5' : Int32) (H : Heap) (locs : List Loc) (ls : Array Slot), E10 x4' x5' → wd D A s.heap (w_X11_wayOf cy a_this a_s w_refusals w_image w_read w_tape w_told w_met w_best w_kept w_squares w_far w_queue v_s v_isImage v_taped v_at v_wrongHour v_wrongThing v_soonest v_bestSteps) H locs → lv_has ls 8 [(0, .ref a_this), (2, .int x2), (3, .int x3), (4, .int x4'), (5, .int x5')] → W p l e { frames := 2, cells := 0, slots := 0, locals := 151 } s m args below meth c H locs 0 0 Q (F0 m 10 ls [])) : ∀ (n : Nat) (x4 : Int32) (x5 : Int32) (x6 : Int32) (x7 : Int32) (H : Heap) (locs : List Loc) (ls : Array Slot), wp_X11_wayOf_37 x3 v_s E10 K n x4 x5 x6 x7 → wd D A s.heap (w_X11_wayOf cy a_this a_s w_refusals w_image w_read w_tape w_told w_met w_best w_kept w_squares w_far w_queue v_s v_isImage v_taped v_at v_wrongHour v_wrongThing v_soonest v_bestSteps) H locs → lv_has ls 8 [(0, .ref a_this), (2, .int x2), (3, .int x3), (4, .int x4), (5, .int x5), (6, .int x6), (7, .int x7)] → W p l e { frames := 2, cells := 0, slots := 0, locals := 151 } s m args below meth c H locs 0 0 Q (F0 m 37 ls []) := by
  have hx := ha.1
  have hb := ha.2.1
  intro n
  induction n with
  | zero => exact fun _ _ _ _ _ _ _ h _ _ => False.elim h
  | succ n ih =>
    intro x4 x5 x6 x7 H locs ls h hw hl
    have h : ((v_s (0 : Int32).toNatClampNeg) ≤ x7 → E10 x6 (x5 + (1 : Int32))) ∧ (¬ ((v_s (0 : Int32).toNatClampNeg) ≤ x7) → (((x4 >>> (x7 &&& 31)) &&& (1 : Int32)) = (1 : Int32) → wp_X11_besideOf x7 v_s (fun (r6 : Int32) => ∀ x6_7 : Int32, x6_7 = x6 ||| (r6 &&& x3) → wp_X11_wayOf_37 x3 v_s E10 K n x4 x5 x6_7 (x7 + (1 : Int32)))) ∧ (¬ (((x4 >>> (x7 &&& 31)) &&& (1 : Int32)) = (1 : Int32)) → wp_X11_wayOf_37 x3 v_s E10 K n x4 x5 x6 (x7 + (1 : Int32)))) := h
    refine lv_iload hx hb dX11_wayOf_37 (lv_at hl 6 rfl) ?_
    refine lv_aload_n hx hb dX11_wayOf_39 rfl (lv_at hl 0 rfl) ?_
    refine g_get (ci := 11) ha hw 0 1 rfl hi_X11_wayOf_11 (by decide) (List.mem_of_getElem? (i := 1) rfl) rfl rfl dX11_wayOf_40 ?_
    refine lv_iconst (v := (0 : Int32)) hx hb dX11_wayOf_43 (by decide) ?_
    refine g_ald ha hw 1 rfl (vp_in_iff.mpr (by decide)) dX11_wayOf_44 ?_
    refine lv_icmp_ge (tgt := 78) hx hb dX11_wayOf_45 (by decide) (fun c4 => ?_) (fun c4 => ?_)
    · have h := h.1 c4
      refine lv_iload hx hb dX11_wayOf_78 (lv_at hl 5 rfl) ?_
      refine lv_istore (lv' := [(4, .int x6), (0, .ref a_this), (2, .int x2), (3, .int x3), (5, .int x5), (6, .int x6), (7, .int x7)]) hx hb dX11_wayOf_80 hl (by decide) rfl (fun ls hl => ?_)
      refine lv_iinc (v := x5 + (1 : Int32)) (lv' := [(5, .int (x5 + (1 : Int32))), (4, .int x6), (0, .ref a_this), (2, .int x2), (3, .int x3), (6, .int x6), (7, .int x7)]) hx hb dX11_wayOf_82 hl (k := 4) rfl rfl (by decide) rfl (fun ls hl => ?_)
      refine lv_goto (tgt := 10) hx hb dX11_wayOf_85 (by decide) ?_
      exact hE10 _ _ _ _ _ h hw (lv_sub hl [2, 3, 4, 1, 0] rfl)
    · have h := h.2 c4
      refine lv_iload hx hb dX11_wayOf_48 (lv_at hl 3 rfl) ?_
      refine lv_iload hx hb dX11_wayOf_50 (lv_at hl 6 rfl) ?_
      refine lv_ishr hx hb dX11_wayOf_52 ?_
      refine lv_iconst (v := (1 : Int32)) hx hb dX11_wayOf_53 (by decide) ?_
      refine lv_iand hx hb dX11_wayOf_54 ?_
      refine lv_iconst (v := (1 : Int32)) hx hb dX11_wayOf_55 (by decide) ?_
      refine lv_icmp_ne (tgt := 72) hx hb dX11_wayOf_56 (by decide) (fun c5 => ?_) (fun c5 => ?_)
      · have h := h.2 c5
        refine lv_iinc (v := x7 + (1 : Int32)) (lv' := [(7, .int (x7 + (1 : Int32))), (0, .ref a_this), (2, .int x2), (3, .int x3), (4, .int x4), (5, .int x5), (6, .int x6)]) hx hb dX11_wayOf_72 hl (k := 6) rfl rfl (by decide) rfl (fun ls hl => ?_)
        refine lv_goto (tgt := 37) hx hb dX11_wayOf_75 (by decide) ?_
        exact ih _ _ _ _ _ _ _ h hw (lv_sub hl [1, 2, 3, 4, 5, 6, 0] rfl)
      · have h := h.1 c5
        refine lv_iload hx hb dX11_wayOf_59 (lv_at hl 5 rfl) ?_
        refine lv_aload_n hx hb dX11_wayOf_61 rfl (lv_at hl 0 rfl) ?_
        refine lv_iload hx hb dX11_wayOf_62 (lv_at hl 6 rfl) ?_
        refine g_cvi (rm := { frames := 1, cells := 0, slots := 0, locals := 64 }) (wn := (fun (u : Unit) => (w_X11_wayOf cy a_this a_s w_refusals w_image w_read w_tape w_told w_met w_best w_kept w_squares w_far w_queue v_s v_isImage v_taped v_at v_wrongHour v_wrongThing v_soonest v_bestSteps))) (As := [.int x7]) ha hw hl.1 (c_X11_besideOf (cy := cy)) (cwV 1 ha.2.2.2.2.1 gX11_wayOf_X11_besideOf rfl rfl rfl hq_X11_besideOf ⟨Nat.le_of_ble_eq_true rfl, Nat.le_of_ble_eq_true rfl⟩) [0, 1] [] [0, 1] rfl rfl rfl rfl (by decide) rfl (fun _ => rfl) rfl rfl h rfl rfl (Nat.le_of_ble_eq_true rfl) dX11_wayOf_64 ⟨Nat.le_refl _, Nat.le_refl _⟩ (fun r6 u H locs h hw => ?_)
        have hw : wd D A s.heap (w_X11_wayOf cy a_this a_s w_refusals w_image w_read w_tape w_told w_met w_best w_kept w_squares w_far w_queue v_s v_isImage v_taped v_at v_wrongHour v_wrongThing v_soonest v_bestSteps) H locs := hw
        try dsimp only at h
        refine lv_iload_n hx hb dX11_wayOf_67 rfl (lv_at hl 2 rfl) ?_
        refine lv_iand hx hb dX11_wayOf_68 ?_
        refine lv_ior hx hb dX11_wayOf_69 ?_
        refine lv_topi (fun x6_7 ex6_7 => ?_)
        have h := h x6_7 ex6_7
        refine lv_istore (lv' := [(6, .int x6_7), (0, .ref a_this), (2, .int x2), (3, .int x3), (4, .int x4), (5, .int x5), (7, .int x7)]) hx hb dX11_wayOf_70 hl (by decide) rfl (fun ls hl => ?_)
        refine lv_iinc (v := x7 + (1 : Int32)) (lv' := [(7, .int (x7 + (1 : Int32))), (6, .int x6_7), (0, .ref a_this), (2, .int x2), (3, .int x3), (4, .int x4), (5, .int x5)]) hx hb dX11_wayOf_72 hl (k := 6) rfl rfl (by decide) rfl (fun ls hl => ?_)
        refine lv_goto (tgt := 37) hx hb dX11_wayOf_75 (by decide) ?_
        exact ih _ _ _ _ _ _ _ h hw (lv_sub hl [2, 3, 4, 5, 6, 1, 0] rfl)
def wp_X11_wayOf_10 (x2 : Int32) (x3 : Int32) (v_s : IA) (K : Int32 → Prop) : Nat → Int32 → Int32 → Prop
  | 0, _, _ => False
  | n + 1, x4, x5 => ((6 : Int32) ≤ x5 → K (-9 : Int32)) ∧ (¬ ((6 : Int32) ≤ x5) → (((x4 >>> (x2 &&& 31)) &&& (1 : Int32)) = (1 : Int32) → K x5) ∧ (¬ (((x4 >>> (x2 &&& 31)) &&& (1 : Int32)) = (1 : Int32)) → ∃ n10 : Nat, wp_X11_wayOf_37 x3 v_s (fun (x4_8 : Int32) (x5_9 : Int32) => wp_X11_wayOf_10 x2 x3 v_s K n x4_8 x5_9) K n10 x4 x5 x4 (0 : Int32)))
set_option maxHeartbeats 4000000 in
set_option maxRecDepth 100000 in
theorem pl_X11_wayOf_10 {p : Program} {l : Launch} {e : Env} {s : State} {m : MethodId} {args : Array Value} {below : List Frame} {meth : Method} {c : Code} {A : Nat → Prop} {Q : State → Prop} {D : va_G} {cy : ClassId} {a_this a_s : Nat} {w_refusals w_image w_read w_tape w_told w_met w_best w_kept w_squares w_far w_queue : Value} {v_s : IA} {v_isImage : Int32} {v_taped : Int32} {v_at : Int32} {v_wrongHour : Int32} {v_wrongThing : Int32} {v_soonest : Int32} {v_bestSteps : Int32} {x2 : Int32} {x3 : Int32} {K : Int32 → Prop} (ha : am p s m args c cX11_wayOf 8 RX11 wsX11_wayOf D cy A) (hr : rtI p l e { frames := 2, cells := 0, slots := 0, locals := 151 } s m args below meth c 0 0 Q cX11_wayOf D A (fun (u : Unit) => (w_X11_wayOf cy a_this a_s w_refusals w_image w_read w_tape w_told w_met w_best w_kept w_squares w_far w_queue v_s v_isImage v_taped v_at v_wrongHour v_wrongThing v_soonest v_bestSteps)) (fun (r : Int32) (u : Unit) => K r)) : ∀ (n : Nat) (x4 : Int32) (x5 : Int32) (H : Heap) (locs : List Loc) (ls : Array Slot), wp_X11_wayOf_10 x2 x3 v_s K n x4 x5 → wd D A s.heap (w_X11_wayOf cy a_this a_s w_refusals w_image w_read w_tape w_told w_met w_best w_kept w_squares w_far w_queue v_s v_isImage v_taped v_at v_wrongHour v_wrongThing v_soonest v_bestSteps) H locs → lv_has ls 8 [(0, .ref a_this), (2, .int x2), (3, .int x3), (4, .int x4), (5, .int x5)] → W p l e { frames := 2, cells := 0, slots := 0, locals := 151 } s m args below meth c H locs 0 0 Q (F0 m 10 ls []) := by
  have hx := ha.1
  have hb := ha.2.1
  intro n
  induction n with
  | zero => exact fun _ _ _ _ _ h _ _ => False.elim h
  | succ n ih =>
    intro x4 x5 H locs ls h hw hl
    have h : ((6 : Int32) ≤ x5 → K (-9 : Int32)) ∧ (¬ ((6 : Int32) ≤ x5) → (((x4 >>> (x2 &&& 31)) &&& (1 : Int32)) = (1 : Int32) → K x5) ∧ (¬ (((x4 >>> (x2 &&& 31)) &&& (1 : Int32)) = (1 : Int32)) → ∃ n10 : Nat, wp_X11_wayOf_37 x3 v_s (fun (x4_8 : Int32) (x5_9 : Int32) => wp_X11_wayOf_10 x2 x3 v_s K n x4_8 x5_9) K n10 x4 x5 x4 (0 : Int32))) := h
    refine lv_iload hx hb dX11_wayOf_10 (lv_at hl 4 rfl) ?_
    refine lv_bipush (v := (6 : Int32)) hx hb dX11_wayOf_12 (by decide) ?_
    refine lv_icmp_ge (tgt := 88) hx hb dX11_wayOf_14 (by decide) (fun c2 => ?_) (fun c2 => ?_)
    · have h := h.1 c2
      refine lv_bipush (v := (-9 : Int32)) hx hb dX11_wayOf_88 (by decide) ?_
      exact hr _ _ () _ _ _ dX11_wayOf_90 h hw
    · have h := h.2 c2
      refine lv_iload hx hb dX11_wayOf_17 (lv_at hl 3 rfl) ?_
      refine lv_iload_n hx hb dX11_wayOf_19 rfl (lv_at hl 1 rfl) ?_
      refine lv_ishr hx hb dX11_wayOf_20 ?_
      refine lv_iconst (v := (1 : Int32)) hx hb dX11_wayOf_21 (by decide) ?_
      refine lv_iand hx hb dX11_wayOf_22 ?_
      refine lv_iconst (v := (1 : Int32)) hx hb dX11_wayOf_23 (by decide) ?_
      refine lv_icmp_ne (tgt := 30) hx hb dX11_wayOf_24 (by decide) (fun c3 => ?_) (fun c3 => ?_)
      · have h := h.2 c3
        refine lv_iload hx hb dX11_wayOf_30 (lv_at hl 3 rfl) ?_
        refine lv_istore (lv' := [(6, .int x4), (0, .ref a_this), (2, .int x2), (3, .int x3), (4, .int x4), (5, .int x5)]) hx hb dX11_wayOf_32 hl (by decide) rfl (fun ls hl => ?_)
        refine lv_iconst (v := (0 : Int32)) hx hb dX11_wayOf_34 (by decide) ?_
        refine lv_istore (lv' := [(7, .int (0 : Int32)), (6, .int x4), (0, .ref a_this), (2, .int x2), (3, .int x3), (4, .int x4), (5, .int x5)]) hx hb dX11_wayOf_35 hl (by decide) rfl (fun ls hl => ?_)
        obtain ⟨n9, h⟩ := h
        refine pl_X11_wayOf_37 ha hr ?_ n9 _ _ _ _ _ _ _ h hw (lv_sub hl [2, 3, 4, 5, 6, 1, 0] rfl)
        · intro x4_8 x5_9 H locs ls h hw hl
          try dsimp only at h
          exact ih _ _ _ _ _ h hw (lv_sub hl [0, 1, 2, 3, 4] rfl)
      · have h := h.1 c3
        refine lv_iload hx hb dX11_wayOf_27 (lv_at hl 4 rfl) ?_
        exact hr _ _ () _ _ _ dX11_wayOf_29 h hw
def wp_X11_wayOf (x1 : Int32) (x2 : Int32) (x3 : Int32) (v_s : IA) (K : Int32 → Prop) : Prop := ∀ x4_1 : Int32, x4_1 = ((1 : Int32) <<< (x1 &&& 31)) &&& x3 → ∃ n11 : Nat, wp_X11_wayOf_10 x2 x3 v_s K n11 x4_1 (0 : Int32)
set_option maxHeartbeats 4000000 in
set_option maxRecDepth 100000 in
theorem c_X11_wayOf {l : Launch} {D : va_G} {cy : ClassId} {a_this a_s : Nat} {w_refusals w_image w_read w_tape w_told w_met w_best w_kept w_squares w_far w_queue : Value} {v_s : IA} {v_isImage : Int32} {v_taped : Int32} {v_at : Int32} {v_wrongHour : Int32} {v_wrongThing : Int32} {v_soonest : Int32} {v_bestSteps : Int32} {x1 : Int32} {x2 : Int32} {x3 : Int32} {K : Int32 → Prop} : CtI l yX11_wayOf wsX11_wayOf { frames := 2, cells := 0, slots := 0, locals := 151 } 0 0 D cy [.ref a_this, .int x1, .int x2, .int x3] (w_X11_wayOf cy a_this a_s w_refusals w_image w_read w_tape w_told w_met w_best w_kept w_squares w_far w_queue v_s v_isImage v_taped v_at v_wrongHour v_wrongThing v_soonest v_bestSteps) (wp_X11_wayOf x1 x2 x3 v_s K) (fun (u : Unit) => (w_X11_wayOf cy a_this a_s w_refusals w_image w_read w_tape w_told w_met w_best w_kept w_squares w_far w_queue v_s v_isImage v_taped v_at v_wrongHour v_wrongThing v_soonest v_bestSteps)) (fun (r : Int32) (u : Unit) => K r) := by
  refine CtI.mk (cc := cX11_wayOf) (nL := 8) (ty := .int) (by decide) rfl (Nat.le_of_ble_eq_true rfl) (fun r u h => rfl) ?_
  intro p e s m args below meth c A Q ha hr _ h ls hl hw
  have ha : am p s m args c cX11_wayOf 8 RX11 wsX11_wayOf D cy A := ha
  have hx := ha.1
  have hb := ha.2.1
  have hl : lv_has ls 8 [(0, .ref a_this), (1, .int x1), (2, .int x2), (3, .int x3)] := hl
  have h : ∀ x4_1 : Int32, x4_1 = ((1 : Int32) <<< (x1 &&& 31)) &&& x3 → ∃ n11 : Nat, wp_X11_wayOf_10 x2 x3 v_s K n11 x4_1 (0 : Int32) := h
  refine lv_iconst (v := (1 : Int32)) hx hb dX11_wayOf_0 (by decide) ?_
  refine lv_iload_n hx hb dX11_wayOf_1 rfl (lv_at hl 1 rfl) ?_
  refine lv_ishl hx hb dX11_wayOf_2 ?_
  refine lv_iload_n hx hb dX11_wayOf_3 rfl (lv_at hl 3 rfl) ?_
  refine lv_iand hx hb dX11_wayOf_4 ?_
  refine lv_topi (fun x4_1 ex4_1 => ?_)
  have h := h x4_1 ex4_1
  refine lv_istore (lv' := [(4, .int x4_1), (0, .ref a_this), (1, .int x1), (2, .int x2), (3, .int x3)]) hx hb dX11_wayOf_5 hl (by decide) rfl (fun ls hl => ?_)
  refine lv_iconst (v := (0 : Int32)) hx hb dX11_wayOf_7 (by decide) ?_
  refine lv_istore (lv' := [(5, .int (0 : Int32)), (4, .int x4_1), (0, .ref a_this), (1, .int x1), (2, .int x2), (3, .int x3)]) hx hb dX11_wayOf_8 hl (by decide) rfl (fun ls hl => ?_)
  obtain ⟨n9, h⟩ := h
  refine pl_X11_wayOf_10 ha hr n9 _ _ _ _ _ h hw (lv_sub hl [2, 4, 5, 1, 0] rfl)
theorem hq_X11_comesTo : yX11_comesTo.cls = RX11 ∧ yX11_comesTo.cls ≠ "java/lang/invoke/MethodHandle" ∧ yX11_comesTo.cls ≠ "java/lang/invoke/VarHandle" ∧ (parseMethodDescriptor yX11_comesTo.desc).map (fun d => d.parameters.length) = some 3 := by decide +kernel
def w_X11_comesTo (cy : ClassId) (a_this a_s : Nat) (w_refusals w_image w_read w_tape w_told w_met w_best w_kept w_squares w_far w_queue : Value) (v_s : IA) (v_isImage : Int32) (v_taped : Int32) (v_at : Int32) (v_wrongHour : Int32) (v_wrongThing : Int32) (v_soonest : Int32) (v_bestSteps : Int32) : va_W := [(a_this, .inr (11, [w_refusals, .ref a_s, w_image, w_read, .int v_isImage, w_tape, w_told, .int v_taped, .int v_at, w_met, .int v_wrongHour, .int v_wrongThing, w_best, w_kept, .int v_soonest, .int v_bestSteps, w_squares, w_far, w_queue])), (a_s, .inl (cy, 120, .inl v_s))]
def wp_X11_comesTo (x1 : Int32) (x2 : Int32) (x3 : Int32) (v_s : IA) (K : Int32 → Prop) : Prop := wp_X11_wayOf x1 x2 x3 v_s (fun (r1 : Int32) => (r1 < 0 → K (0 : Int32)) ∧ (¬ (r1 < 0) → K (1 : Int32)))
set_option maxHeartbeats 4000000 in
set_option maxRecDepth 100000 in
theorem c_X11_comesTo {l : Launch} {D : va_G} {cy : ClassId} {a_this a_s : Nat} {w_refusals w_image w_read w_tape w_told w_met w_best w_kept w_squares w_far w_queue : Value} {v_s : IA} {v_isImage : Int32} {v_taped : Int32} {v_at : Int32} {v_wrongHour : Int32} {v_wrongThing : Int32} {v_soonest : Int32} {v_bestSteps : Int32} {x1 : Int32} {x2 : Int32} {x3 : Int32} {K : Int32 → Prop} : CtI l yX11_comesTo wsX11_comesTo { frames := 3, cells := 0, slots := 0, locals := 242 } 0 0 D cy [.ref a_this, .int x1, .int x2, .int x3] (w_X11_comesTo cy a_this a_s w_refusals w_image w_read w_tape w_told w_met w_best w_kept w_squares w_far w_queue v_s v_isImage v_taped v_at v_wrongHour v_wrongThing v_soonest v_bestSteps) (wp_X11_comesTo x1 x2 x3 v_s K) (fun (u : Unit) => (w_X11_comesTo cy a_this a_s w_refusals w_image w_read w_tape w_told w_met w_best w_kept w_squares w_far w_queue v_s v_isImage v_taped v_at v_wrongHour v_wrongThing v_soonest v_bestSteps)) (fun (r : Int32) (u : Unit) => nz r ∧ K r) := by
  refine CtI.mk (cc := cX11_comesTo) (nL := 4) (ty := .boolean) (by decide) rfl (Nat.le_of_ble_eq_true rfl) (fun r u h => h.1.nar) ?_
  intro p e s m args below meth c A Q ha hr _ h ls hl hw
  have ha : am p s m args c cX11_comesTo 4 RX11 wsX11_comesTo D cy A := ha
  have hx := ha.1
  have hb := ha.2.1
  have hl : lv_has ls 4 [(0, .ref a_this), (1, .int x1), (2, .int x2), (3, .int x3)] := hl
  have h : wp_X11_wayOf x1 x2 x3 v_s (fun (r1 : Int32) => (r1 < 0 → K (0 : Int32)) ∧ (¬ (r1 < 0) → K (1 : Int32))) := h
  refine lv_aload_n hx hb dX11_comesTo_0 rfl (lv_at hl 0 rfl) ?_
  refine lv_iload_n hx hb dX11_comesTo_1 rfl (lv_at hl 1 rfl) ?_
  refine lv_iload_n hx hb dX11_comesTo_2 rfl (lv_at hl 2 rfl) ?_
  refine lv_iload_n hx hb dX11_comesTo_3 rfl (lv_at hl 3 rfl) ?_
  refine g_cvi (rm := { frames := 2, cells := 0, slots := 0, locals := 151 }) (wn := (fun (u : Unit) => (w_X11_comesTo cy a_this a_s w_refusals w_image w_read w_tape w_told w_met w_best w_kept w_squares w_far w_queue v_s v_isImage v_taped v_at v_wrongHour v_wrongThing v_soonest v_bestSteps))) (As := [.int x1, .int x2, .int x3]) ha hw hl.1 (c_X11_wayOf (cy := cy)) (cwV 3 ha.2.2.2.2.1 gX11_comesTo_X11_wayOf rfl rfl rfl hq_X11_wayOf ⟨Nat.le_of_ble_eq_true rfl, Nat.le_of_ble_eq_true rfl⟩) [0, 1] [] [0, 1] rfl rfl rfl rfl (by decide) rfl (fun _ => rfl) rfl rfl h rfl rfl (Nat.le_of_ble_eq_true rfl) dX11_comesTo_4 ⟨Nat.le_refl _, Nat.le_refl _⟩ (fun r1 u H locs h hw => ?_)
  have hw : wd D A s.heap (w_X11_comesTo cy a_this a_s w_refusals w_image w_read w_tape w_told w_met w_best w_kept w_squares w_far w_queue v_s v_isImage v_taped v_at v_wrongHour v_wrongThing v_soonest v_bestSteps) H locs := hw
  try dsimp only at h
  refine lv_if_lt (tgt := 14) hx hb dX11_comesTo_7 (by decide) (fun c2 => ?_) (fun c2 => ?_)
  · have h := h.1 c2
    refine lv_iconst (v := (0 : Int32)) hx hb dX11_comesTo_14 (by decide) ?_
    exact hr _ _ () _ _ _ dX11_comesTo_15 ⟨nz0, h⟩ hw
  · have h := h.2 c2
    refine lv_iconst (v := (1 : Int32)) hx hb dX11_comesTo_10 (by decide) ?_
    refine lv_goto (tgt := 15) hx hb dX11_comesTo_11 (by decide) ?_
    exact hr _ _ () _ _ _ dX11_comesTo_15 ⟨nz1, h⟩ hw
theorem hq_X11_goesOut : yX11_goesOut.cls = RX11 ∧ yX11_goesOut.cls ≠ "java/lang/invoke/MethodHandle" ∧ yX11_goesOut.cls ≠ "java/lang/invoke/VarHandle" ∧ (parseMethodDescriptor yX11_goesOut.desc).map (fun d => d.parameters.length) = some 1 := by decide +kernel
def w_X11_goesOut (cy : ClassId) (a_this a_s : Nat) (w_refusals w_image w_read w_tape w_told w_met w_best w_kept w_squares w_far w_queue : Value) (v_s : IA) (v_isImage : Int32) (v_taped : Int32) (v_at : Int32) (v_wrongHour : Int32) (v_wrongThing : Int32) (v_soonest : Int32) (v_bestSteps : Int32) : va_W := [(a_this, .inr (11, [w_refusals, .ref a_s, w_image, w_read, .int v_isImage, w_tape, w_told, .int v_taped, .int v_at, w_met, .int v_wrongHour, .int v_wrongThing, w_best, w_kept, .int v_soonest, .int v_bestSteps, w_squares, w_far, w_queue])), (a_s, .inl (cy, 120, .inl v_s))]
theorem hi_X11_goesOut_11 : ∀ w ∈ u_ws RX11 TX11 19, w ∈ wsX11_goesOut := fun _ h => List.mem_cons_of_mem _ (List.mem_append_right _ h)
def wp_X11_goesOut_25 (x2 : Int32) (v_s : IA) (E52 : Prop) (K : Int32 → Prop) : Nat → Int32 → Prop
  | 0, _ => False
  | n + 1, x3 => ((v_s (0 : Int32).toNatClampNeg) ≤ x3 → E52) ∧ (¬ ((v_s (0 : Int32).toNatClampNeg) ≤ x3) → (((x2 >>> (x3 &&& 31)) &&& (1 : Int32)) = (1 : Int32) → K x3) ∧ (¬ (((x2 >>> (x3 &&& 31)) &&& (1 : Int32)) = (1 : Int32)) → wp_X11_goesOut_25 x2 v_s E52 K n (x3 + (1 : Int32))))
set_option maxHeartbeats 4000000 in
set_option maxRecDepth 100000 in
theorem pl_X11_goesOut_25 {p : Program} {l : Launch} {e : Env} {s : State} {m : MethodId} {args : Array Value} {below : List Frame} {meth : Method} {c : Code} {A : Nat → Prop} {Q : State → Prop} {D : va_G} {cy : ClassId} {a_this a_s : Nat} {w_refusals w_image w_read w_tape w_told w_met w_best w_kept w_squares w_far w_queue : Value} {v_s : IA} {v_isImage : Int32} {v_taped : Int32} {v_at : Int32} {v_wrongHour : Int32} {v_wrongThing : Int32} {v_soonest : Int32} {v_bestSteps : Int32} {x2 : Int32} {x1 : Int32} {K : Int32 → Prop} {E52 : Prop} (ha : am p s m args c cX11_goesOut 4 RX11 wsX11_goesOut D cy A) (hr : rtI p l e { frames := 4, cells := 0, slots := 0, locals := 324 } s m args below meth c 0 0 Q cX11_goesOut D A (fun (u : Unit) => (w_X11_goesOut cy a_this a_s w_refusals w_image w_read w_tape w_told w_met w_best w_kept w_squares w_far w_queue v_s v_isImage v_taped v_at v_wrongHour v_wrongThing v_soonest v_bestSteps)) (fun (r : Int32) (u : Unit) => K r)) (hE52 : ∀ (H : Heap) (locs : List Loc) (ls : Array Slot), E52 → wd D A s.heap (w_X11_goesOut cy a_this a_s w_refusals w_image w_read w_tape w_told w_met w_best w_kept w_squares w_far w_queue v_s v_isImage v_taped v_at v_wrongHour v_wrongThing v_soonest v_bestSteps) H locs → lv_has ls 4 [(0, .ref a_this), (1, .int x1)] → W p l e { frames := 4, cells := 0, slots := 0, locals := 324 } s m args below meth c H locs 0 0 Q (F0 m 52 ls [])) : ∀ (n : Nat) (x3 : Int32) (H : Heap) (locs : List Loc) (ls : Array Slot), wp_X11_goesOut_25 x2 v_s E52 K n x3 → wd D A s.heap (w_X11_goesOut cy a_this a_s w_refusals w_image w_read w_tape w_told w_met w_best w_kept w_squares w_far w_queue v_s v_isImage v_taped v_at v_wrongHour v_wrongThing v_soonest v_bestSteps) H locs → lv_has ls 4 [(0, .ref a_this), (1, .int x1), (2, .int x2), (3, .int x3)] → W p l e { frames := 4, cells := 0, slots := 0, locals := 324 } s m args below meth c H locs 0 0 Q (F0 m 25 ls []) := by
  have hx := ha.1
  have hb := ha.2.1
  intro n
  induction n with
  | zero => exact fun _ _ _ _ h _ _ => False.elim h
  | succ n ih =>
    intro x3 H locs ls h hw hl
    have h : ((v_s (0 : Int32).toNatClampNeg) ≤ x3 → E52) ∧ (¬ ((v_s (0 : Int32).toNatClampNeg) ≤ x3) → (((x2 >>> (x3 &&& 31)) &&& (1 : Int32)) = (1 : Int32) → K x3) ∧ (¬ (((x2 >>> (x3 &&& 31)) &&& (1 : Int32)) = (1 : Int32)) → wp_X11_goesOut_25 x2 v_s E52 K n (x3 + (1 : Int32)))) := h
    refine lv_iload_n hx hb dX11_goesOut_25 rfl (lv_at hl 3 rfl) ?_
    refine lv_aload_n hx hb dX11_goesOut_26 rfl (lv_at hl 0 rfl) ?_
    refine g_get (ci := 11) ha hw 0 1 rfl hi_X11_goesOut_11 (by decide) (List.mem_of_getElem? (i := 1) rfl) rfl rfl dX11_goesOut_27 ?_
    refine lv_iconst (v := (0 : Int32)) hx hb dX11_goesOut_30 (by decide) ?_
    refine g_ald ha hw 1 rfl (vp_in_iff.mpr (by decide)) dX11_goesOut_31 ?_
    refine lv_icmp_ge (tgt := 52) hx hb dX11_goesOut_32 (by decide) (fun c6 => ?_) (fun c6 => ?_)
    · have h := h.1 c6
      exact hE52 _ _ _ h hw (lv_sub hl [0, 1] rfl)
    · have h := h.2 c6
      refine lv_iload_n hx hb dX11_goesOut_35 rfl (lv_at hl 2 rfl) ?_
      refine lv_iload_n hx hb dX11_goesOut_36 rfl (lv_at hl 3 rfl) ?_
      refine lv_ishr hx hb dX11_goesOut_37 ?_
      refine lv_iconst (v := (1 : Int32)) hx hb dX11_goesOut_38 (by decide) ?_
      refine lv_iand hx hb dX11_goesOut_39 ?_
      refine lv_iconst (v := (1 : Int32)) hx hb dX11_goesOut_40 (by decide) ?_
      refine lv_icmp_ne (tgt := 46) hx hb dX11_goesOut_41 (by decide) (fun c7 => ?_) (fun c7 => ?_)
      · have h := h.2 c7
        refine lv_iinc (v := x3 + (1 : Int32)) (lv' := [(3, .int (x3 + (1 : Int32))), (0, .ref a_this), (1, .int x1), (2, .int x2)]) hx hb dX11_goesOut_46 hl (k := 3) rfl rfl (by decide) rfl (fun ls hl => ?_)
        refine lv_goto (tgt := 25) hx hb dX11_goesOut_49 (by decide) ?_
        exact ih _ _ _ _ h hw (lv_sub hl [1, 2, 3, 0] rfl)
      · have h := h.1 c7
        refine lv_iload_n hx hb dX11_goesOut_44 rfl (lv_at hl 3 rfl) ?_
        exact hr _ _ () _ _ _ dX11_goesOut_45 h hw
def wp_X11_goesOut (x1 : Int32) (v_s : IA) (K : Int32 → Prop) : Prop := wp_X11_roomOf x1 v_s (fun (r1 : Int32) => wp_X11_besideOf r1 v_s (fun (r2 : Int32) => wp_X11_endOf x1 v_s (fun (r3 : Int32) => wp_X11_openAt r3 (x1 + (1 : Int32)) v_s (fun (r4 : Int32) => ∀ x2_5 : Int32, x2_5 = r2 &&& r4 → ∃ n9 : Nat, wp_X11_goesOut_25 x2_5 v_s (wp_X11_roomOf x1 v_s (fun (r8 : Int32) => K r8)) K n9 (0 : Int32)))))
set_option maxHeartbeats 4000000 in
set_option maxRecDepth 100000 in
theorem c_X11_goesOut {l : Launch} {D : va_G} {cy : ClassId} {a_this a_s : Nat} {w_refusals w_image w_read w_tape w_told w_met w_best w_kept w_squares w_far w_queue : Value} {v_s : IA} {v_isImage : Int32} {v_taped : Int32} {v_at : Int32} {v_wrongHour : Int32} {v_wrongThing : Int32} {v_soonest : Int32} {v_bestSteps : Int32} {x1 : Int32} {K : Int32 → Prop} : CtI l yX11_goesOut wsX11_goesOut { frames := 4, cells := 0, slots := 0, locals := 324 } 0 0 D cy [.ref a_this, .int x1] (w_X11_goesOut cy a_this a_s w_refusals w_image w_read w_tape w_told w_met w_best w_kept w_squares w_far w_queue v_s v_isImage v_taped v_at v_wrongHour v_wrongThing v_soonest v_bestSteps) (wp_X11_goesOut x1 v_s K) (fun (u : Unit) => (w_X11_goesOut cy a_this a_s w_refusals w_image w_read w_tape w_told w_met w_best w_kept w_squares w_far w_queue v_s v_isImage v_taped v_at v_wrongHour v_wrongThing v_soonest v_bestSteps)) (fun (r : Int32) (u : Unit) => K r) := by
  refine CtI.mk (cc := cX11_goesOut) (nL := 4) (ty := .int) (by decide) rfl (Nat.le_of_ble_eq_true rfl) (fun r u h => rfl) ?_
  intro p e s m args below meth c A Q ha hr _ h ls hl hw
  have ha : am p s m args c cX11_goesOut 4 RX11 wsX11_goesOut D cy A := ha
  have hx := ha.1
  have hb := ha.2.1
  have hl : lv_has ls 4 [(0, .ref a_this), (1, .int x1)] := hl
  have h : wp_X11_roomOf x1 v_s (fun (r1 : Int32) => wp_X11_besideOf r1 v_s (fun (r2 : Int32) => wp_X11_endOf x1 v_s (fun (r3 : Int32) => wp_X11_openAt r3 (x1 + (1 : Int32)) v_s (fun (r4 : Int32) => ∀ x2_5 : Int32, x2_5 = r2 &&& r4 → ∃ n9 : Nat, wp_X11_goesOut_25 x2_5 v_s (wp_X11_roomOf x1 v_s (fun (r8 : Int32) => K r8)) K n9 (0 : Int32))))) := h
  refine lv_aload_n hx hb dX11_goesOut_0 rfl (lv_at hl 0 rfl) ?_
  refine lv_aload_n hx hb dX11_goesOut_1 rfl (lv_at hl 0 rfl) ?_
  refine lv_iload_n hx hb dX11_goesOut_2 rfl (lv_at hl 1 rfl) ?_
  refine g_cvi (rm := { frames := 1, cells := 0, slots := 0, locals := 64 }) (wn := (fun (u : Unit) => (w_X11_goesOut cy a_this a_s w_refusals w_image w_read w_tape w_told w_met w_best w_kept w_squares w_far w_queue v_s v_isImage v_taped v_at v_wrongHour v_wrongThing v_soonest v_bestSteps))) (As := [.int x1]) ha hw hl.1 (c_X11_roomOf (cy := cy)) (cwV 1 ha.2.2.2.2.1 gX11_goesOut_X11_roomOf rfl rfl rfl hq_X11_roomOf ⟨Nat.le_of_ble_eq_true rfl, Nat.le_of_ble_eq_true rfl⟩) [0, 1] [] [0, 1] rfl rfl rfl rfl (by decide) rfl (fun _ => rfl) rfl rfl h rfl rfl (Nat.le_of_ble_eq_true rfl) dX11_goesOut_3 ⟨Nat.le_refl _, Nat.le_refl _⟩ (fun r1 u H locs h hw => ?_)
  have hw : wd D A s.heap (w_X11_goesOut cy a_this a_s w_refusals w_image w_read w_tape w_told w_met w_best w_kept w_squares w_far w_queue v_s v_isImage v_taped v_at v_wrongHour v_wrongThing v_soonest v_bestSteps) H locs := hw
  try dsimp only at h
  refine g_cvi (rm := { frames := 1, cells := 0, slots := 0, locals := 64 }) (wn := (fun (u : Unit) => (w_X11_goesOut cy a_this a_s w_refusals w_image w_read w_tape w_told w_met w_best w_kept w_squares w_far w_queue v_s v_isImage v_taped v_at v_wrongHour v_wrongThing v_soonest v_bestSteps))) (As := [.int r1]) ha hw hl.1 (c_X11_besideOf (cy := cy)) (cwV 1 ha.2.2.2.2.1 gX11_goesOut_X11_besideOf rfl rfl rfl hq_X11_besideOf ⟨Nat.le_of_ble_eq_true rfl, Nat.le_of_ble_eq_true rfl⟩) [0, 1] [] [0, 1] rfl rfl rfl rfl (by decide) rfl (fun _ => rfl) rfl rfl h rfl rfl (Nat.le_of_ble_eq_true rfl) dX11_goesOut_6 ⟨Nat.le_refl _, Nat.le_refl _⟩ (fun r2 u H locs h hw => ?_)
  have hw : wd D A s.heap (w_X11_goesOut cy a_this a_s w_refusals w_image w_read w_tape w_told w_met w_best w_kept w_squares w_far w_queue v_s v_isImage v_taped v_at v_wrongHour v_wrongThing v_soonest v_bestSteps) H locs := hw
  try dsimp only at h
  refine lv_aload_n hx hb dX11_goesOut_9 rfl (lv_at hl 0 rfl) ?_
  refine lv_aload_n hx hb dX11_goesOut_10 rfl (lv_at hl 0 rfl) ?_
  refine lv_iload_n hx hb dX11_goesOut_11 rfl (lv_at hl 1 rfl) ?_
  refine g_cvi (rm := { frames := 2, cells := 0, slots := 0, locals := 149 }) (wn := (fun (u : Unit) => (w_X11_goesOut cy a_this a_s w_refusals w_image w_read w_tape w_told w_met w_best w_kept w_squares w_far w_queue v_s v_isImage v_taped v_at v_wrongHour v_wrongThing v_soonest v_bestSteps))) (As := [.int x1]) ha hw hl.1 (c_X11_endOf (cy := cy)) (cwV 1 ha.2.2.2.2.1 gX11_goesOut_X11_endOf rfl rfl rfl hq_X11_endOf ⟨Nat.le_of_ble_eq_true rfl, Nat.le_of_ble_eq_true rfl⟩) [0, 1] [] [0, 1] rfl rfl rfl rfl (by decide) rfl (fun _ => rfl) rfl rfl h rfl rfl (Nat.le_of_ble_eq_true rfl) dX11_goesOut_12 ⟨Nat.le_refl _, Nat.le_refl _⟩ (fun r3 u H locs h hw => ?_)
  have hw : wd D A s.heap (w_X11_goesOut cy a_this a_s w_refusals w_image w_read w_tape w_told w_met w_best w_kept w_squares w_far w_queue v_s v_isImage v_taped v_at v_wrongHour v_wrongThing v_soonest v_bestSteps) H locs := hw
  try dsimp only at h
  refine lv_iload_n hx hb dX11_goesOut_15 rfl (lv_at hl 1 rfl) ?_
  refine lv_iconst (v := (1 : Int32)) hx hb dX11_goesOut_16 (by decide) ?_
  refine lv_iadd hx hb dX11_goesOut_17 ?_
  refine g_cvi (rm := { frames := 3, cells := 0, slots := 0, locals := 234 }) (wn := (fun (u : Unit) => (w_X11_goesOut cy a_this a_s w_refusals w_image w_read w_tape w_told w_met w_best w_kept w_squares w_far w_queue v_s v_isImage v_taped v_at v_wrongHour v_wrongThing v_soonest v_bestSteps))) (As := [.int r3, .int (x1 + (1 : Int32))]) ha hw hl.1 (c_X11_openAt (cy := cy)) (cwV 2 ha.2.2.2.2.1 gX11_goesOut_X11_openAt rfl rfl rfl hq_X11_openAt ⟨Nat.le_of_ble_eq_true rfl, Nat.le_of_ble_eq_true rfl⟩) [0, 1] [] [0, 1] rfl rfl rfl rfl (by decide) rfl (fun _ => rfl) rfl rfl h rfl rfl (Nat.le_of_ble_eq_true rfl) dX11_goesOut_18 ⟨Nat.le_refl _, Nat.le_refl _⟩ (fun r4 u H locs h hw => ?_)
  have hw : wd D A s.heap (w_X11_goesOut cy a_this a_s w_refusals w_image w_read w_tape w_told w_met w_best w_kept w_squares w_far w_queue v_s v_isImage v_taped v_at v_wrongHour v_wrongThing v_soonest v_bestSteps) H locs := hw
  try dsimp only at h
  refine lv_iand hx hb dX11_goesOut_21 ?_
  refine lv_topi (fun x2_5 ex2_5 => ?_)
  have h := h x2_5 ex2_5
  refine lv_istore_n (lv' := [(2, .int x2_5), (0, .ref a_this), (1, .int x1)]) hx hb dX11_goesOut_22 rfl hl (by decide) rfl (fun ls hl => ?_)
  refine lv_iconst (v := (0 : Int32)) hx hb dX11_goesOut_23 (by decide) ?_
  refine lv_istore_n (lv' := [(3, .int (0 : Int32)), (2, .int x2_5), (0, .ref a_this), (1, .int x1)]) hx hb dX11_goesOut_24 rfl hl (by decide) rfl (fun ls hl => ?_)
  obtain ⟨n9, h⟩ := h
  refine pl_X11_goesOut_25 ha hr ?_ n9 _ _ _ _ h hw (lv_sub hl [2, 3, 1, 0] rfl)
  · intro H locs ls h hw hl
    try dsimp only at h
    refine lv_aload_n hx hb dX11_goesOut_52 rfl (lv_at hl 0 rfl) ?_
    refine lv_iload_n hx hb dX11_goesOut_53 rfl (lv_at hl 1 rfl) ?_
    refine g_cvi (rm := { frames := 1, cells := 0, slots := 0, locals := 64 }) (wn := (fun (u : Unit) => (w_X11_goesOut cy a_this a_s w_refusals w_image w_read w_tape w_told w_met w_best w_kept w_squares w_far w_queue v_s v_isImage v_taped v_at v_wrongHour v_wrongThing v_soonest v_bestSteps))) (As := [.int x1]) ha hw hl.1 (c_X11_roomOf (cy := cy)) (cwV 1 ha.2.2.2.2.1 gX11_goesOut_X11_roomOf rfl rfl rfl hq_X11_roomOf ⟨Nat.le_of_ble_eq_true rfl, Nat.le_of_ble_eq_true rfl⟩) [0, 1] [] [0, 1] rfl rfl rfl rfl (by decide) rfl (fun _ => rfl) rfl rfl h rfl rfl (Nat.le_of_ble_eq_true rfl) dX11_goesOut_54 ⟨Nat.le_refl _, Nat.le_refl _⟩ (fun r8 u H locs h hw => ?_)
    have hw : wd D A s.heap (w_X11_goesOut cy a_this a_s w_refusals w_image w_read w_tape w_told w_met w_best w_kept w_squares w_far w_queue v_s v_isImage v_taped v_at v_wrongHour v_wrongThing v_soonest v_bestSteps) H locs := hw
    try dsimp only at h
    exact hr _ _ () _ _ _ dX11_goesOut_57 h hw
theorem hq_X11_whereOf : yX11_whereOf.cls = RX11 ∧ yX11_whereOf.cls ≠ "java/lang/invoke/MethodHandle" ∧ yX11_whereOf.cls ≠ "java/lang/invoke/VarHandle" ∧ (parseMethodDescriptor yX11_whereOf.desc).map (fun d => d.parameters.length) = some 1 := by decide +kernel
def w_X11_whereOf (cy : ClassId) (a_this a_s : Nat) (w_refusals w_image w_read w_tape w_told w_met w_best w_kept w_squares w_far w_queue : Value) (v_s : IA) (v_isImage : Int32) (v_taped : Int32) (v_at : Int32) (v_wrongHour : Int32) (v_wrongThing : Int32) (v_soonest : Int32) (v_bestSteps : Int32) : va_W := [(a_this, .inr (11, [w_refusals, .ref a_s, w_image, w_read, .int v_isImage, w_tape, w_told, .int v_taped, .int v_at, w_met, .int v_wrongHour, .int v_wrongThing, w_best, w_kept, .int v_soonest, .int v_bestSteps, w_squares, w_far, w_queue])), (a_s, .inl (cy, 120, .inl v_s))]
def wp_X11_whereOf (x1 : Int32) (v_s : IA) (K : Int32 → Prop) : Prop := (x1 = 0 → K (0 : Int32)) ∧ (¬ (x1 = 0) → wp_X11_goesOut (x1 - (1 : Int32)) v_s (fun (r2 : Int32) => K r2))
set_option maxHeartbeats 4000000 in
set_option maxRecDepth 100000 in
theorem c_X11_whereOf {l : Launch} {D : va_G} {cy : ClassId} {a_this a_s : Nat} {w_refusals w_image w_read w_tape w_told w_met w_best w_kept w_squares w_far w_queue : Value} {v_s : IA} {v_isImage : Int32} {v_taped : Int32} {v_at : Int32} {v_wrongHour : Int32} {v_wrongThing : Int32} {v_soonest : Int32} {v_bestSteps : Int32} {x1 : Int32} {K : Int32 → Prop} : CtI l yX11_whereOf wsX11_whereOf { frames := 5, cells := 0, slots := 0, locals := 411 } 0 0 D cy [.ref a_this, .int x1] (w_X11_whereOf cy a_this a_s w_refusals w_image w_read w_tape w_told w_met w_best w_kept w_squares w_far w_queue v_s v_isImage v_taped v_at v_wrongHour v_wrongThing v_soonest v_bestSteps) (wp_X11_whereOf x1 v_s K) (fun (u : Unit) => (w_X11_whereOf cy a_this a_s w_refusals w_image w_read w_tape w_told w_met w_best w_kept w_squares w_far w_queue v_s v_isImage v_taped v_at v_wrongHour v_wrongThing v_soonest v_bestSteps)) (fun (r : Int32) (u : Unit) => K r) := by
  refine CtI.mk (cc := cX11_whereOf) (nL := 2) (ty := .int) (by decide) rfl (Nat.le_of_ble_eq_true rfl) (fun r u h => rfl) ?_
  intro p e s m args below meth c A Q ha hr _ h ls hl hw
  have ha : am p s m args c cX11_whereOf 2 RX11 wsX11_whereOf D cy A := ha
  have hx := ha.1
  have hb := ha.2.1
  have hl : lv_has ls 2 [(0, .ref a_this), (1, .int x1)] := hl
  have h : (x1 = 0 → K (0 : Int32)) ∧ (¬ (x1 = 0) → wp_X11_goesOut (x1 - (1 : Int32)) v_s (fun (r2 : Int32) => K r2)) := h
  refine lv_iload_n hx hb dX11_whereOf_0 rfl (lv_at hl 1 rfl) ?_
  refine lv_if_ne (tgt := 8) hx hb dX11_whereOf_1 (by decide) (fun c1 => ?_) (fun c1 => ?_)
  · have h := h.2 c1
    refine lv_aload_n hx hb dX11_whereOf_8 rfl (lv_at hl 0 rfl) ?_
    refine lv_iload_n hx hb dX11_whereOf_9 rfl (lv_at hl 1 rfl) ?_
    refine lv_iconst (v := (1 : Int32)) hx hb dX11_whereOf_10 (by decide) ?_
    refine lv_isub hx hb dX11_whereOf_11 ?_
    refine g_cvi (rm := { frames := 4, cells := 0, slots := 0, locals := 324 }) (wn := (fun (u : Unit) => (w_X11_whereOf cy a_this a_s w_refusals w_image w_read w_tape w_told w_met w_best w_kept w_squares w_far w_queue v_s v_isImage v_taped v_at v_wrongHour v_wrongThing v_soonest v_bestSteps))) (As := [.int (x1 - (1 : Int32))]) ha hw hl.1 (c_X11_goesOut (cy := cy)) (cwV 1 ha.2.2.2.2.1 gX11_whereOf_X11_goesOut rfl rfl rfl hq_X11_goesOut ⟨Nat.le_of_ble_eq_true rfl, Nat.le_of_ble_eq_true rfl⟩) [0, 1] [] [0, 1] rfl rfl rfl rfl (by decide) rfl (fun _ => rfl) rfl rfl h rfl rfl (Nat.le_of_ble_eq_true rfl) dX11_whereOf_12 ⟨Nat.le_refl _, Nat.le_refl _⟩ (fun r2 u H locs h hw => ?_)
    have hw : wd D A s.heap (w_X11_whereOf cy a_this a_s w_refusals w_image w_read w_tape w_told w_met w_best w_kept w_squares w_far w_queue v_s v_isImage v_taped v_at v_wrongHour v_wrongThing v_soonest v_bestSteps) H locs := hw
    try dsimp only at h
    exact hr _ _ () _ _ _ dX11_whereOf_15 h hw
  · have h := h.1 c1
    refine lv_iconst (v := (0 : Int32)) hx hb dX11_whereOf_4 (by decide) ?_
    refine lv_goto (tgt := 15) hx hb dX11_whereOf_5 (by decide) ?_
    exact hr _ _ () _ _ _ dX11_whereOf_15 h hw
theorem hq_X11_isShutIn : yX11_isShutIn.cls = RX11 ∧ yX11_isShutIn.cls ≠ "java/lang/invoke/MethodHandle" ∧ yX11_isShutIn.cls ≠ "java/lang/invoke/VarHandle" ∧ (parseMethodDescriptor yX11_isShutIn.desc).map (fun d => d.parameters.length) = some 1 := by decide +kernel
def w_X11_isShutIn (cy : ClassId) (a_this a_s : Nat) (w_refusals w_image w_read w_tape w_told w_met w_best w_kept w_squares w_far w_queue : Value) (v_s : IA) (v_isImage : Int32) (v_taped : Int32) (v_at : Int32) (v_wrongHour : Int32) (v_wrongThing : Int32) (v_soonest : Int32) (v_bestSteps : Int32) : va_W := [(a_this, .inr (11, [w_refusals, .ref a_s, w_image, w_read, .int v_isImage, w_tape, w_told, .int v_taped, .int v_at, w_met, .int v_wrongHour, .int v_wrongThing, w_best, w_kept, .int v_soonest, .int v_bestSteps, w_squares, w_far, w_queue])), (a_s, .inl (cy, 120, .inl v_s))]
def wp_X11_isShutIn (x1 : Int32) (v_s : IA) (K : Int32 → Prop) : Prop := wp_X11_goesOut x1 v_s (fun (r1 : Int32) => wp_X11_roomOf x1 v_s (fun (r2 : Int32) => (r1 = r2 → K (1 : Int32)) ∧ (¬ (r1 = r2) → K (0 : Int32))))
set_option maxHeartbeats 4000000 in
set_option maxRecDepth 100000 in
theorem c_X11_isShutIn {l : Launch} {D : va_G} {cy : ClassId} {a_this a_s : Nat} {w_refusals w_image w_read w_tape w_told w_met w_best w_kept w_squares w_far w_queue : Value} {v_s : IA} {v_isImage : Int32} {v_taped : Int32} {v_at : Int32} {v_wrongHour : Int32} {v_wrongThing : Int32} {v_soonest : Int32} {v_bestSteps : Int32} {x1 : Int32} {K : Int32 → Prop} : CtI l yX11_isShutIn wsX11_isShutIn { frames := 5, cells := 0, slots := 0, locals := 411 } 0 0 D cy [.ref a_this, .int x1] (w_X11_isShutIn cy a_this a_s w_refusals w_image w_read w_tape w_told w_met w_best w_kept w_squares w_far w_queue v_s v_isImage v_taped v_at v_wrongHour v_wrongThing v_soonest v_bestSteps) (wp_X11_isShutIn x1 v_s K) (fun (u : Unit) => (w_X11_isShutIn cy a_this a_s w_refusals w_image w_read w_tape w_told w_met w_best w_kept w_squares w_far w_queue v_s v_isImage v_taped v_at v_wrongHour v_wrongThing v_soonest v_bestSteps)) (fun (r : Int32) (u : Unit) => nz r ∧ K r) := by
  refine CtI.mk (cc := cX11_isShutIn) (nL := 2) (ty := .boolean) (by decide) rfl (Nat.le_of_ble_eq_true rfl) (fun r u h => h.1.nar) ?_
  intro p e s m args below meth c A Q ha hr _ h ls hl hw
  have ha : am p s m args c cX11_isShutIn 2 RX11 wsX11_isShutIn D cy A := ha
  have hx := ha.1
  have hb := ha.2.1
  have hl : lv_has ls 2 [(0, .ref a_this), (1, .int x1)] := hl
  have h : wp_X11_goesOut x1 v_s (fun (r1 : Int32) => wp_X11_roomOf x1 v_s (fun (r2 : Int32) => (r1 = r2 → K (1 : Int32)) ∧ (¬ (r1 = r2) → K (0 : Int32)))) := h
  refine lv_aload_n hx hb dX11_isShutIn_0 rfl (lv_at hl 0 rfl) ?_
  refine lv_iload_n hx hb dX11_isShutIn_1 rfl (lv_at hl 1 rfl) ?_
  refine g_cvi (rm := { frames := 4, cells := 0, slots := 0, locals := 324 }) (wn := (fun (u : Unit) => (w_X11_isShutIn cy a_this a_s w_refusals w_image w_read w_tape w_told w_met w_best w_kept w_squares w_far w_queue v_s v_isImage v_taped v_at v_wrongHour v_wrongThing v_soonest v_bestSteps))) (As := [.int x1]) ha hw hl.1 (c_X11_goesOut (cy := cy)) (cwV 1 ha.2.2.2.2.1 gX11_isShutIn_X11_goesOut rfl rfl rfl hq_X11_goesOut ⟨Nat.le_of_ble_eq_true rfl, Nat.le_of_ble_eq_true rfl⟩) [0, 1] [] [0, 1] rfl rfl rfl rfl (by decide) rfl (fun _ => rfl) rfl rfl h rfl rfl (Nat.le_of_ble_eq_true rfl) dX11_isShutIn_2 ⟨Nat.le_refl _, Nat.le_refl _⟩ (fun r1 u H locs h hw => ?_)
  have hw : wd D A s.heap (w_X11_isShutIn cy a_this a_s w_refusals w_image w_read w_tape w_told w_met w_best w_kept w_squares w_far w_queue v_s v_isImage v_taped v_at v_wrongHour v_wrongThing v_soonest v_bestSteps) H locs := hw
  try dsimp only at h
  refine lv_aload_n hx hb dX11_isShutIn_5 rfl (lv_at hl 0 rfl) ?_
  refine lv_iload_n hx hb dX11_isShutIn_6 rfl (lv_at hl 1 rfl) ?_
  refine g_cvi (rm := { frames := 1, cells := 0, slots := 0, locals := 64 }) (wn := (fun (u : Unit) => (w_X11_isShutIn cy a_this a_s w_refusals w_image w_read w_tape w_told w_met w_best w_kept w_squares w_far w_queue v_s v_isImage v_taped v_at v_wrongHour v_wrongThing v_soonest v_bestSteps))) (As := [.int x1]) ha hw hl.1 (c_X11_roomOf (cy := cy)) (cwV 1 ha.2.2.2.2.1 gX11_isShutIn_X11_roomOf rfl rfl rfl hq_X11_roomOf ⟨Nat.le_of_ble_eq_true rfl, Nat.le_of_ble_eq_true rfl⟩) [0, 1] [] [0, 1] rfl rfl rfl rfl (by decide) rfl (fun _ => rfl) rfl rfl h rfl rfl (Nat.le_of_ble_eq_true rfl) dX11_isShutIn_7 ⟨Nat.le_refl _, Nat.le_refl _⟩ (fun r2 u H locs h hw => ?_)
  have hw : wd D A s.heap (w_X11_isShutIn cy a_this a_s w_refusals w_image w_read w_tape w_told w_met w_best w_kept w_squares w_far w_queue v_s v_isImage v_taped v_at v_wrongHour v_wrongThing v_soonest v_bestSteps) H locs := hw
  try dsimp only at h
  refine lv_icmp_ne (tgt := 17) hx hb dX11_isShutIn_10 (by decide) (fun c3 => ?_) (fun c3 => ?_)
  · have h := h.2 c3
    refine lv_iconst (v := (0 : Int32)) hx hb dX11_isShutIn_17 (by decide) ?_
    exact hr _ _ () _ _ _ dX11_isShutIn_18 ⟨nz0, h⟩ hw
  · have h := h.1 c3
    refine lv_iconst (v := (1 : Int32)) hx hb dX11_isShutIn_13 (by decide) ?_
    refine lv_goto (tgt := 18) hx hb dX11_isShutIn_14 (by decide) ?_
    exact hr _ _ () _ _ _ dX11_isShutIn_18 ⟨nz1, h⟩ hw
theorem hq_X11_isFresh : yX11_isFresh.cls = RX11 ∧ yX11_isFresh.cls ≠ "java/lang/invoke/MethodHandle" ∧ yX11_isFresh.cls ≠ "java/lang/invoke/VarHandle" ∧ (parseMethodDescriptor yX11_isFresh.desc).map (fun d => d.parameters.length) = some 3 := by decide +kernel
def w_X11_isFresh (cy : ClassId) (a_this a_s : Nat) (w_refusals w_image w_read w_tape w_told w_met w_best w_kept w_squares w_far w_queue : Value) (v_s : IA) (v_isImage : Int32) (v_taped : Int32) (v_at : Int32) (v_wrongHour : Int32) (v_wrongThing : Int32) (v_soonest : Int32) (v_bestSteps : Int32) : va_W := [(a_this, .inr (11, [w_refusals, .ref a_s, w_image, w_read, .int v_isImage, w_tape, w_told, .int v_taped, .int v_at, w_met, .int v_wrongHour, .int v_wrongThing, w_best, w_kept, .int v_soonest, .int v_bestSteps, w_squares, w_far, w_queue])), (a_s, .inl (cy, 120, .inl v_s))]
theorem hi_X11_isFresh_11 : ∀ w ∈ u_ws RX11 TX11 19, w ∈ wsX11_isFresh := fun _ h => List.mem_cons_of_mem _ (List.mem_append_right _ h)
def wp_X11_isFresh_3 (x1 : Int32) (x2 : Int32) (x3 : Int32) (v_s : IA) (K : Int32 → Prop) : Nat → Int32 → Prop
  | 0, _ => False
  | n + 1, x4 => (x3 ≤ x4 → K (0 : Int32)) ∧ (¬ (x3 ≤ x4) → wp_X11_roomOf x4 v_s (fun (r2 : Int32) => (r2 = x1 → wp_X11_hourOf x4 v_s (fun (r4 : Int32) => (x2 < r4 → wp_X11_isFresh_3 x1 x2 x3 v_s K n (x4 + (1 : Int32))) ∧ (¬ (x2 < r4) → wp_X11_endOf x4 v_s (fun (r6 : Int32) => (((r6 + (v_s (4 : Int32).toNatClampNeg)) + (v_s (5 : Int32).toNatClampNeg)) ≤ x2 → wp_X11_isFresh_3 x1 x2 x3 v_s K n (x4 + (1 : Int32))) ∧ (¬ (((r6 + (v_s (4 : Int32).toNatClampNeg)) + (v_s (5 : Int32).toNatClampNeg)) ≤ x2) → K (1 : Int32)))))) ∧ (¬ (r2 = x1) → wp_X11_isFresh_3 x1 x2 x3 v_s K n (x4 + (1 : Int32)))))
set_option maxHeartbeats 4000000 in
set_option maxRecDepth 100000 in
theorem pl_X11_isFresh_3 {p : Program} {l : Launch} {e : Env} {s : State} {m : MethodId} {args : Array Value} {below : List Frame} {meth : Method} {c : Code} {A : Nat → Prop} {Q : State → Prop} {D : va_G} {cy : ClassId} {a_this a_s : Nat} {w_refusals w_image w_read w_tape w_told w_met w_best w_kept w_squares w_far w_queue : Value} {v_s : IA} {v_isImage : Int32} {v_taped : Int32} {v_at : Int32} {v_wrongHour : Int32} {v_wrongThing : Int32} {v_soonest : Int32} {v_bestSteps : Int32} {x1 : Int32} {x2 : Int32} {x3 : Int32} {K : Int32 → Prop} (ha : am p s m args c cX11_isFresh 5 RX11 wsX11_isFresh D cy A) (hr : rtI p l e { frames := 3, cells := 0, slots := 0, locals := 234 } s m args below meth c 0 0 Q cX11_isFresh D A (fun (u : Unit) => (w_X11_isFresh cy a_this a_s w_refusals w_image w_read w_tape w_told w_met w_best w_kept w_squares w_far w_queue v_s v_isImage v_taped v_at v_wrongHour v_wrongThing v_soonest v_bestSteps)) (fun (r : Int32) (u : Unit) => nz r ∧ K r)) : ∀ (n : Nat) (x4 : Int32) (H : Heap) (locs : List Loc) (ls : Array Slot), wp_X11_isFresh_3 x1 x2 x3 v_s K n x4 → wd D A s.heap (w_X11_isFresh cy a_this a_s w_refusals w_image w_read w_tape w_told w_met w_best w_kept w_squares w_far w_queue v_s v_isImage v_taped v_at v_wrongHour v_wrongThing v_soonest v_bestSteps) H locs → lv_has ls 5 [(0, .ref a_this), (1, .int x1), (2, .int x2), (3, .int x3), (4, .int x4)] → W p l e { frames := 3, cells := 0, slots := 0, locals := 234 } s m args below meth c H locs 0 0 Q (F0 m 3 ls []) := by
  have hx := ha.1
  have hb := ha.2.1
  intro n
  induction n with
  | zero => exact fun _ _ _ _ h _ _ => False.elim h
  | succ n ih =>
    intro x4 H locs ls h hw hl
    have h : (x3 ≤ x4 → K (0 : Int32)) ∧ (¬ (x3 ≤ x4) → wp_X11_roomOf x4 v_s (fun (r2 : Int32) => (r2 = x1 → wp_X11_hourOf x4 v_s (fun (r4 : Int32) => (x2 < r4 → wp_X11_isFresh_3 x1 x2 x3 v_s K n (x4 + (1 : Int32))) ∧ (¬ (x2 < r4) → wp_X11_endOf x4 v_s (fun (r6 : Int32) => (((r6 + (v_s (4 : Int32).toNatClampNeg)) + (v_s (5 : Int32).toNatClampNeg)) ≤ x2 → wp_X11_isFresh_3 x1 x2 x3 v_s K n (x4 + (1 : Int32))) ∧ (¬ (((r6 + (v_s (4 : Int32).toNatClampNeg)) + (v_s (5 : Int32).toNatClampNeg)) ≤ x2) → K (1 : Int32)))))) ∧ (¬ (r2 = x1) → wp_X11_isFresh_3 x1 x2 x3 v_s K n (x4 + (1 : Int32))))) := h
    refine lv_iload hx hb dX11_isFresh_3 (lv_at hl 4 rfl) ?_
    refine lv_iload_n hx hb dX11_isFresh_5 rfl (lv_at hl 3 rfl) ?_
    refine lv_icmp_ge (tgt := 61) hx hb dX11_isFresh_6 (by decide) (fun c1 => ?_) (fun c1 => ?_)
    · have h := h.1 c1
      refine lv_iconst (v := (0 : Int32)) hx hb dX11_isFresh_61 (by decide) ?_
      exact hr _ _ () _ _ _ dX11_isFresh_62 ⟨nz0, h⟩ hw
    · have h := h.2 c1
      refine lv_aload_n hx hb dX11_isFresh_9 rfl (lv_at hl 0 rfl) ?_
      refine lv_iload hx hb dX11_isFresh_10 (lv_at hl 4 rfl) ?_
      refine g_cvi (rm := { frames := 1, cells := 0, slots := 0, locals := 64 }) (wn := (fun (u : Unit) => (w_X11_isFresh cy a_this a_s w_refusals w_image w_read w_tape w_told w_met w_best w_kept w_squares w_far w_queue v_s v_isImage v_taped v_at v_wrongHour v_wrongThing v_soonest v_bestSteps))) (As := [.int x4]) ha hw hl.1 (c_X11_roomOf (cy := cy)) (cwV 1 ha.2.2.2.2.1 gX11_isFresh_X11_roomOf rfl rfl rfl hq_X11_roomOf ⟨Nat.le_of_ble_eq_true rfl, Nat.le_of_ble_eq_true rfl⟩) [0, 1] [] [0, 1] rfl rfl rfl rfl (by decide) rfl (fun _ => rfl) rfl rfl h rfl rfl (Nat.le_of_ble_eq_true rfl) dX11_isFresh_12 ⟨Nat.le_refl _, Nat.le_refl _⟩ (fun r2 u H locs h hw => ?_)
      have hw : wd D A s.heap (w_X11_isFresh cy a_this a_s w_refusals w_image w_read w_tape w_told w_met w_best w_kept w_squares w_far w_queue v_s v_isImage v_taped v_at v_wrongHour v_wrongThing v_soonest v_bestSteps) H locs := hw
      try dsimp only at h
      refine lv_iload_n hx hb dX11_isFresh_15 rfl (lv_at hl 1 rfl) ?_
      refine lv_icmp_ne (tgt := 55) hx hb dX11_isFresh_16 (by decide) (fun c3 => ?_) (fun c3 => ?_)
      · have h := h.2 c3
        refine lv_iinc (v := x4 + (1 : Int32)) (lv' := [(4, .int (x4 + (1 : Int32))), (0, .ref a_this), (1, .int x1), (2, .int x2), (3, .int x3)]) hx hb dX11_isFresh_55 hl (k := 4) rfl rfl (by decide) rfl (fun ls hl => ?_)
        refine lv_goto (tgt := 3) hx hb dX11_isFresh_58 (by decide) ?_
        exact ih _ _ _ _ h hw (lv_sub hl [1, 2, 3, 4, 0] rfl)
      · have h := h.1 c3
        refine lv_iload_n hx hb dX11_isFresh_19 rfl (lv_at hl 2 rfl) ?_
        refine lv_aload_n hx hb dX11_isFresh_20 rfl (lv_at hl 0 rfl) ?_
        refine lv_iload hx hb dX11_isFresh_21 (lv_at hl 4 rfl) ?_
        refine g_cvi (rm := { frames := 1, cells := 0, slots := 0, locals := 64 }) (wn := (fun (u : Unit) => (w_X11_isFresh cy a_this a_s w_refusals w_image w_read w_tape w_told w_met w_best w_kept w_squares w_far w_queue v_s v_isImage v_taped v_at v_wrongHour v_wrongThing v_soonest v_bestSteps))) (As := [.int x4]) ha hw hl.1 (c_X11_hourOf (cy := cy)) (cwV 1 ha.2.2.2.2.1 gX11_isFresh_X11_hourOf rfl rfl rfl hq_X11_hourOf ⟨Nat.le_of_ble_eq_true rfl, Nat.le_of_ble_eq_true rfl⟩) [0, 1] [] [0, 1] rfl rfl rfl rfl (by decide) rfl (fun _ => rfl) rfl rfl h rfl rfl (Nat.le_of_ble_eq_true rfl) dX11_isFresh_23 ⟨Nat.le_refl _, Nat.le_refl _⟩ (fun r4 u H locs h hw => ?_)
        have hw : wd D A s.heap (w_X11_isFresh cy a_this a_s w_refusals w_image w_read w_tape w_told w_met w_best w_kept w_squares w_far w_queue v_s v_isImage v_taped v_at v_wrongHour v_wrongThing v_soonest v_bestSteps) H locs := hw
        try dsimp only at h
        refine lv_icmp_lt (tgt := 55) hx hb dX11_isFresh_26 (by decide) (fun c5 => ?_) (fun c5 => ?_)
        · have h := h.1 c5
          refine lv_iinc (v := x4 + (1 : Int32)) (lv' := [(4, .int (x4 + (1 : Int32))), (0, .ref a_this), (1, .int x1), (2, .int x2), (3, .int x3)]) hx hb dX11_isFresh_55 hl (k := 4) rfl rfl (by decide) rfl (fun ls hl => ?_)
          refine lv_goto (tgt := 3) hx hb dX11_isFresh_58 (by decide) ?_
          exact ih _ _ _ _ h hw (lv_sub hl [1, 2, 3, 4, 0] rfl)
        · have h := h.2 c5
          refine lv_iload_n hx hb dX11_isFresh_29 rfl (lv_at hl 2 rfl) ?_
          refine lv_aload_n hx hb dX11_isFresh_30 rfl (lv_at hl 0 rfl) ?_
          refine lv_iload hx hb dX11_isFresh_31 (lv_at hl 4 rfl) ?_
          refine g_cvi (rm := { frames := 2, cells := 0, slots := 0, locals := 149 }) (wn := (fun (u : Unit) => (w_X11_isFresh cy a_this a_s w_refusals w_image w_read w_tape w_told w_met w_best w_kept w_squares w_far w_queue v_s v_isImage v_taped v_at v_wrongHour v_wrongThing v_soonest v_bestSteps))) (As := [.int x4]) ha hw hl.1 (c_X11_endOf (cy := cy)) (cwV 1 ha.2.2.2.2.1 gX11_isFresh_X11_endOf rfl rfl rfl hq_X11_endOf ⟨Nat.le_of_ble_eq_true rfl, Nat.le_of_ble_eq_true rfl⟩) [0, 1] [] [0, 1] rfl rfl rfl rfl (by decide) rfl (fun _ => rfl) rfl rfl h rfl rfl (Nat.le_of_ble_eq_true rfl) dX11_isFresh_33 ⟨Nat.le_refl _, Nat.le_refl _⟩ (fun r6 u H locs h hw => ?_)
          have hw : wd D A s.heap (w_X11_isFresh cy a_this a_s w_refusals w_image w_read w_tape w_told w_met w_best w_kept w_squares w_far w_queue v_s v_isImage v_taped v_at v_wrongHour v_wrongThing v_soonest v_bestSteps) H locs := hw
          try dsimp only at h
          refine lv_aload_n hx hb dX11_isFresh_36 rfl (lv_at hl 0 rfl) ?_
          refine g_get (ci := 11) ha hw 0 1 rfl hi_X11_isFresh_11 (by decide) (List.mem_of_getElem? (i := 1) rfl) rfl rfl dX11_isFresh_37 ?_
          refine lv_iconst (v := (4 : Int32)) hx hb dX11_isFresh_40 (by decide) ?_
          refine g_ald ha hw 1 rfl (vp_in_iff.mpr (by decide)) dX11_isFresh_41 ?_
          refine lv_iadd hx hb dX11_isFresh_42 ?_
          refine lv_aload_n hx hb dX11_isFresh_43 rfl (lv_at hl 0 rfl) ?_
          refine g_get (ci := 11) ha hw 0 1 rfl hi_X11_isFresh_11 (by decide) (List.mem_of_getElem? (i := 1) rfl) rfl rfl dX11_isFresh_44 ?_
          refine lv_iconst (v := (5 : Int32)) hx hb dX11_isFresh_47 (by decide) ?_
          refine g_ald ha hw 1 rfl (vp_in_iff.mpr (by decide)) dX11_isFresh_48 ?_
          refine lv_iadd hx hb dX11_isFresh_49 ?_
          refine lv_icmp_ge (tgt := 55) hx hb dX11_isFresh_50 (by decide) (fun c7 => ?_) (fun c7 => ?_)
          · have h := h.1 c7
            refine lv_iinc (v := x4 + (1 : Int32)) (lv' := [(4, .int (x4 + (1 : Int32))), (0, .ref a_this), (1, .int x1), (2, .int x2), (3, .int x3)]) hx hb dX11_isFresh_55 hl (k := 4) rfl rfl (by decide) rfl (fun ls hl => ?_)
            refine lv_goto (tgt := 3) hx hb dX11_isFresh_58 (by decide) ?_
            exact ih _ _ _ _ h hw (lv_sub hl [1, 2, 3, 4, 0] rfl)
          · have h := h.2 c7
            refine lv_iconst (v := (1 : Int32)) hx hb dX11_isFresh_53 (by decide) ?_
            exact hr _ _ () _ _ _ dX11_isFresh_54 ⟨nz1, h⟩ hw
def wp_X11_isFresh (x1 : Int32) (x2 : Int32) (x3 : Int32) (v_s : IA) (K : Int32 → Prop) : Prop := ∃ n8 : Nat, wp_X11_isFresh_3 x1 x2 x3 v_s K n8 (0 : Int32)
set_option maxHeartbeats 4000000 in
set_option maxRecDepth 100000 in
theorem c_X11_isFresh {l : Launch} {D : va_G} {cy : ClassId} {a_this a_s : Nat} {w_refusals w_image w_read w_tape w_told w_met w_best w_kept w_squares w_far w_queue : Value} {v_s : IA} {v_isImage : Int32} {v_taped : Int32} {v_at : Int32} {v_wrongHour : Int32} {v_wrongThing : Int32} {v_soonest : Int32} {v_bestSteps : Int32} {x1 : Int32} {x2 : Int32} {x3 : Int32} {K : Int32 → Prop} : CtI l yX11_isFresh wsX11_isFresh { frames := 3, cells := 0, slots := 0, locals := 234 } 0 0 D cy [.ref a_this, .int x1, .int x2, .int x3] (w_X11_isFresh cy a_this a_s w_refusals w_image w_read w_tape w_told w_met w_best w_kept w_squares w_far w_queue v_s v_isImage v_taped v_at v_wrongHour v_wrongThing v_soonest v_bestSteps) (wp_X11_isFresh x1 x2 x3 v_s K) (fun (u : Unit) => (w_X11_isFresh cy a_this a_s w_refusals w_image w_read w_tape w_told w_met w_best w_kept w_squares w_far w_queue v_s v_isImage v_taped v_at v_wrongHour v_wrongThing v_soonest v_bestSteps)) (fun (r : Int32) (u : Unit) => nz r ∧ K r) := by
  refine CtI.mk (cc := cX11_isFresh) (nL := 5) (ty := .boolean) (by decide) rfl (Nat.le_of_ble_eq_true rfl) (fun r u h => h.1.nar) ?_
  intro p e s m args below meth c A Q ha hr _ h ls hl hw
  have ha : am p s m args c cX11_isFresh 5 RX11 wsX11_isFresh D cy A := ha
  have hx := ha.1
  have hb := ha.2.1
  have hl : lv_has ls 5 [(0, .ref a_this), (1, .int x1), (2, .int x2), (3, .int x3)] := hl
  have h : ∃ n8 : Nat, wp_X11_isFresh_3 x1 x2 x3 v_s K n8 (0 : Int32) := h
  refine lv_iconst (v := (0 : Int32)) hx hb dX11_isFresh_0 (by decide) ?_
  refine lv_istore (lv' := [(4, .int (0 : Int32)), (0, .ref a_this), (1, .int x1), (2, .int x2), (3, .int x3)]) hx hb dX11_isFresh_1 hl (by decide) rfl (fun ls hl => ?_)
  obtain ⟨n9, h⟩ := h
  refine pl_X11_isFresh_3 ha hr n9 _ _ _ _ h hw (lv_sub hl [1, 2, 3, 4, 0] rfl)
theorem hq_X11_coatsOf : yX11_coatsOf.cls = RX11 ∧ yX11_coatsOf.cls ≠ "java/lang/invoke/MethodHandle" ∧ yX11_coatsOf.cls ≠ "java/lang/invoke/VarHandle" ∧ (parseMethodDescriptor yX11_coatsOf.desc).map (fun d => d.parameters.length) = some 2 := by decide +kernel
def w_X11_coatsOf (cy : ClassId) (a_this a_s : Nat) (w_refusals w_image w_read w_tape w_told w_met w_best w_kept w_squares w_far w_queue : Value) (v_s : IA) (v_isImage : Int32) (v_taped : Int32) (v_at : Int32) (v_wrongHour : Int32) (v_wrongThing : Int32) (v_soonest : Int32) (v_bestSteps : Int32) : va_W := [(a_this, .inr (11, [w_refusals, .ref a_s, w_image, w_read, .int v_isImage, w_tape, w_told, .int v_taped, .int v_at, w_met, .int v_wrongHour, .int v_wrongThing, w_best, w_kept, .int v_soonest, .int v_bestSteps, w_squares, w_far, w_queue])), (a_s, .inl (cy, 120, .inl v_s))]
def wp_X11_coatsOf_5 (x1 : Int32) (x2 : Int32) (v_s : IA) (K : Int32 → Prop) : Nat → Int32 → Int32 → Prop
  | 0, _, _ => False
  | n + 1, x3, x4 => (x2 ≤ x4 → K x3) ∧ (¬ (x2 ≤ x4) → wp_X11_roomOf x4 v_s (fun (r2 : Int32) => (r2 = x1 → ∀ x3_5 : Int32, x3_5 = x3 + (1 : Int32) → wp_X11_coatsOf_5 x1 x2 v_s K n x3_5 (x4 + (1 : Int32))) ∧ (¬ (r2 = x1) → ∀ x3_4 : Int32, x3_4 = x3 + (0 : Int32) → wp_X11_coatsOf_5 x1 x2 v_s K n x3_4 (x4 + (1 : Int32)))))
set_option maxHeartbeats 4000000 in
set_option maxRecDepth 100000 in
theorem pl_X11_coatsOf_5 {p : Program} {l : Launch} {e : Env} {s : State} {m : MethodId} {args : Array Value} {below : List Frame} {meth : Method} {c : Code} {A : Nat → Prop} {Q : State → Prop} {D : va_G} {cy : ClassId} {a_this a_s : Nat} {w_refusals w_image w_read w_tape w_told w_met w_best w_kept w_squares w_far w_queue : Value} {v_s : IA} {v_isImage : Int32} {v_taped : Int32} {v_at : Int32} {v_wrongHour : Int32} {v_wrongThing : Int32} {v_soonest : Int32} {v_bestSteps : Int32} {x1 : Int32} {x2 : Int32} {K : Int32 → Prop} (ha : am p s m args c cX11_coatsOf 5 RX11 wsX11_coatsOf D cy A) (hr : rtI p l e { frames := 2, cells := 0, slots := 0, locals := 149 } s m args below meth c 0 0 Q cX11_coatsOf D A (fun (u : Unit) => (w_X11_coatsOf cy a_this a_s w_refusals w_image w_read w_tape w_told w_met w_best w_kept w_squares w_far w_queue v_s v_isImage v_taped v_at v_wrongHour v_wrongThing v_soonest v_bestSteps)) (fun (r : Int32) (u : Unit) => K r)) : ∀ (n : Nat) (x3 : Int32) (x4 : Int32) (H : Heap) (locs : List Loc) (ls : Array Slot), wp_X11_coatsOf_5 x1 x2 v_s K n x3 x4 → wd D A s.heap (w_X11_coatsOf cy a_this a_s w_refusals w_image w_read w_tape w_told w_met w_best w_kept w_squares w_far w_queue v_s v_isImage v_taped v_at v_wrongHour v_wrongThing v_soonest v_bestSteps) H locs → lv_has ls 5 [(0, .ref a_this), (1, .int x1), (2, .int x2), (3, .int x3), (4, .int x4)] → W p l e { frames := 2, cells := 0, slots := 0, locals := 149 } s m args below meth c H locs 0 0 Q (F0 m 5 ls []) := by
  have hx := ha.1
  have hb := ha.2.1
  intro n
  induction n with
  | zero => exact fun _ _ _ _ _ h _ _ => False.elim h
  | succ n ih =>
    intro x3 x4 H locs ls h hw hl
    have h : (x2 ≤ x4 → K x3) ∧ (¬ (x2 ≤ x4) → wp_X11_roomOf x4 v_s (fun (r2 : Int32) => (r2 = x1 → ∀ x3_5 : Int32, x3_5 = x3 + (1 : Int32) → wp_X11_coatsOf_5 x1 x2 v_s K n x3_5 (x4 + (1 : Int32))) ∧ (¬ (r2 = x1) → ∀ x3_4 : Int32, x3_4 = x3 + (0 : Int32) → wp_X11_coatsOf_5 x1 x2 v_s K n x3_4 (x4 + (1 : Int32))))) := h
    refine lv_iload hx hb dX11_coatsOf_5 (lv_at hl 4 rfl) ?_
    refine lv_iload_n hx hb dX11_coatsOf_7 rfl (lv_at hl 2 rfl) ?_
    refine lv_icmp_ge (tgt := 35) hx hb dX11_coatsOf_8 (by decide) (fun c1 => ?_) (fun c1 => ?_)
    · have h := h.1 c1
      refine lv_iload_n hx hb dX11_coatsOf_35 rfl (lv_at hl 3 rfl) ?_
      exact hr _ _ () _ _ _ dX11_coatsOf_36 h hw
    · have h := h.2 c1
      refine lv_iload_n hx hb dX11_coatsOf_11 rfl (lv_at hl 3 rfl) ?_
      refine lv_aload_n hx hb dX11_coatsOf_12 rfl (lv_at hl 0 rfl) ?_
      refine lv_iload hx hb dX11_coatsOf_13 (lv_at hl 4 rfl) ?_
      refine g_cvi (rm := { frames := 1, cells := 0, slots := 0, locals := 64 }) (wn := (fun (u : Unit) => (w_X11_coatsOf cy a_this a_s w_refusals w_image w_read w_tape w_told w_met w_best w_kept w_squares w_far w_queue v_s v_isImage v_taped v_at v_wrongHour v_wrongThing v_soonest v_bestSteps))) (As := [.int x4]) ha hw hl.1 (c_X11_roomOf (cy := cy)) (cwV 1 ha.2.2.2.2.1 gX11_coatsOf_X11_roomOf rfl rfl rfl hq_X11_roomOf ⟨Nat.le_of_ble_eq_true rfl, Nat.le_of_ble_eq_true rfl⟩) [0, 1] [] [0, 1] rfl rfl rfl rfl (by decide) rfl (fun _ => rfl) rfl rfl h rfl rfl (Nat.le_of_ble_eq_true rfl) dX11_coatsOf_15 ⟨Nat.le_refl _, Nat.le_refl _⟩ (fun r2 u H locs h hw => ?_)
      have hw : wd D A s.heap (w_X11_coatsOf cy a_this a_s w_refusals w_image w_read w_tape w_told w_met w_best w_kept w_squares w_far w_queue v_s v_isImage v_taped v_at v_wrongHour v_wrongThing v_soonest v_bestSteps) H locs := hw
      try dsimp only at h
      refine lv_iload_n hx hb dX11_coatsOf_18 rfl (lv_at hl 1 rfl) ?_
      refine lv_icmp_ne (tgt := 26) hx hb dX11_coatsOf_19 (by decide) (fun c3 => ?_) (fun c3 => ?_)
      · have h := h.2 c3
        refine lv_iconst (v := (0 : Int32)) hx hb dX11_coatsOf_26 (by decide) ?_
        refine lv_iadd hx hb dX11_coatsOf_27 ?_
        refine lv_topi (fun x3_4 ex3_4 => ?_)
        have h := h x3_4 ex3_4
        refine lv_istore_n (lv' := [(3, .int x3_4), (0, .ref a_this), (1, .int x1), (2, .int x2), (4, .int x4)]) hx hb dX11_coatsOf_28 rfl hl (by decide) rfl (fun ls hl => ?_)
        refine lv_iinc (v := x4 + (1 : Int32)) (lv' := [(4, .int (x4 + (1 : Int32))), (3, .int x3_4), (0, .ref a_this), (1, .int x1), (2, .int x2)]) hx hb dX11_coatsOf_29 hl (k := 4) rfl rfl (by decide) rfl (fun ls hl => ?_)
        refine lv_goto (tgt := 5) hx hb dX11_coatsOf_32 (by decide) ?_
        exact ih _ _ _ _ _ h hw (lv_sub hl [2, 3, 4, 1, 0] rfl)
      · have h := h.1 c3
        refine lv_iconst (v := (1 : Int32)) hx hb dX11_coatsOf_22 (by decide) ?_
        refine lv_goto (tgt := 27) hx hb dX11_coatsOf_23 (by decide) ?_
        refine lv_iadd hx hb dX11_coatsOf_27 ?_
        refine lv_topi (fun x3_5 ex3_5 => ?_)
        have h := h x3_5 ex3_5
        refine lv_istore_n (lv' := [(3, .int x3_5), (0, .ref a_this), (1, .int x1), (2, .int x2), (4, .int x4)]) hx hb dX11_coatsOf_28 rfl hl (by decide) rfl (fun ls hl => ?_)
        refine lv_iinc (v := x4 + (1 : Int32)) (lv' := [(4, .int (x4 + (1 : Int32))), (3, .int x3_5), (0, .ref a_this), (1, .int x1), (2, .int x2)]) hx hb dX11_coatsOf_29 hl (k := 4) rfl rfl (by decide) rfl (fun ls hl => ?_)
        refine lv_goto (tgt := 5) hx hb dX11_coatsOf_32 (by decide) ?_
        exact ih _ _ _ _ _ h hw (lv_sub hl [2, 3, 4, 1, 0] rfl)
def wp_X11_coatsOf (x1 : Int32) (x2 : Int32) (v_s : IA) (K : Int32 → Prop) : Prop := ∃ n6 : Nat, wp_X11_coatsOf_5 x1 x2 v_s K n6 (0 : Int32) (0 : Int32)
set_option maxHeartbeats 4000000 in
set_option maxRecDepth 100000 in
theorem c_X11_coatsOf {l : Launch} {D : va_G} {cy : ClassId} {a_this a_s : Nat} {w_refusals w_image w_read w_tape w_told w_met w_best w_kept w_squares w_far w_queue : Value} {v_s : IA} {v_isImage : Int32} {v_taped : Int32} {v_at : Int32} {v_wrongHour : Int32} {v_wrongThing : Int32} {v_soonest : Int32} {v_bestSteps : Int32} {x1 : Int32} {x2 : Int32} {K : Int32 → Prop} : CtI l yX11_coatsOf wsX11_coatsOf { frames := 2, cells := 0, slots := 0, locals := 149 } 0 0 D cy [.ref a_this, .int x1, .int x2] (w_X11_coatsOf cy a_this a_s w_refusals w_image w_read w_tape w_told w_met w_best w_kept w_squares w_far w_queue v_s v_isImage v_taped v_at v_wrongHour v_wrongThing v_soonest v_bestSteps) (wp_X11_coatsOf x1 x2 v_s K) (fun (u : Unit) => (w_X11_coatsOf cy a_this a_s w_refusals w_image w_read w_tape w_told w_met w_best w_kept w_squares w_far w_queue v_s v_isImage v_taped v_at v_wrongHour v_wrongThing v_soonest v_bestSteps)) (fun (r : Int32) (u : Unit) => K r) := by
  refine CtI.mk (cc := cX11_coatsOf) (nL := 5) (ty := .int) (by decide) rfl (Nat.le_of_ble_eq_true rfl) (fun r u h => rfl) ?_
  intro p e s m args below meth c A Q ha hr _ h ls hl hw
  have ha : am p s m args c cX11_coatsOf 5 RX11 wsX11_coatsOf D cy A := ha
  have hx := ha.1
  have hb := ha.2.1
  have hl : lv_has ls 5 [(0, .ref a_this), (1, .int x1), (2, .int x2)] := hl
  have h : ∃ n6 : Nat, wp_X11_coatsOf_5 x1 x2 v_s K n6 (0 : Int32) (0 : Int32) := h
  refine lv_iconst (v := (0 : Int32)) hx hb dX11_coatsOf_0 (by decide) ?_
  refine lv_istore_n (lv' := [(3, .int (0 : Int32)), (0, .ref a_this), (1, .int x1), (2, .int x2)]) hx hb dX11_coatsOf_1 rfl hl (by decide) rfl (fun ls hl => ?_)
  refine lv_iconst (v := (0 : Int32)) hx hb dX11_coatsOf_2 (by decide) ?_
  refine lv_istore (lv' := [(4, .int (0 : Int32)), (3, .int (0 : Int32)), (0, .ref a_this), (1, .int x1), (2, .int x2)]) hx hb dX11_coatsOf_3 hl (by decide) rfl (fun ls hl => ?_)
  obtain ⟨n9, h⟩ := h
  refine pl_X11_coatsOf_5 ha hr n9 _ _ _ _ _ h hw (lv_sub hl [2, 3, 4, 1, 0] rfl)
theorem hq_X11_isLate : yX11_isLate.cls = RX11 ∧ yX11_isLate.cls ≠ "java/lang/invoke/MethodHandle" ∧ yX11_isLate.cls ≠ "java/lang/invoke/VarHandle" ∧ (parseMethodDescriptor yX11_isLate.desc).map (fun d => d.parameters.length) = some 1 := by decide +kernel
def w_X11_isLate (cy : ClassId) (a_this a_s : Nat) (w_refusals w_image w_read w_tape w_told w_met w_best w_kept w_squares w_far w_queue : Value) (v_s : IA) (v_isImage : Int32) (v_taped : Int32) (v_at : Int32) (v_wrongHour : Int32) (v_wrongThing : Int32) (v_soonest : Int32) (v_bestSteps : Int32) : va_W := [(a_this, .inr (11, [w_refusals, .ref a_s, w_image, w_read, .int v_isImage, w_tape, w_told, .int v_taped, .int v_at, w_met, .int v_wrongHour, .int v_wrongThing, w_best, w_kept, .int v_soonest, .int v_bestSteps, w_squares, w_far, w_queue])), (a_s, .inl (cy, 120, .inl v_s))]
theorem hi_X11_isLate_11 : ∀ w ∈ u_ws RX11 TX11 19, w ∈ wsX11_isLate := fun _ h => List.mem_cons_of_mem _ (List.mem_append_right _ h)
def wp_X11_isLate_5 (x1 : Int32) (v_s : IA) (E35 : Int32 → Prop) (K : Int32 → Prop) : Nat → Int32 → Int32 → Prop
  | 0, _, _ => False
  | n + 1, x2, x3 => (x1 ≤ x3 → E35 x2) ∧ (¬ (x1 ≤ x3) → wp_X11_roomOf x3 v_s (fun (r2 : Int32) => wp_X11_roomOf x1 v_s (fun (r3 : Int32) => (r2 = r3 → wp_X11_isLate_5 x1 v_s E35 K n x3 (x3 + (1 : Int32))) ∧ (¬ (r2 = r3) → wp_X11_isLate_5 x1 v_s E35 K n x2 (x3 + (1 : Int32))))))
set_option maxHeartbeats 4000000 in
set_option maxRecDepth 100000 in
theorem pl_X11_isLate_5 {p : Program} {l : Launch} {e : Env} {s : State} {m : MethodId} {args : Array Value} {below : List Frame} {meth : Method} {c : Code} {A : Nat → Prop} {Q : State → Prop} {D : va_G} {cy : ClassId} {a_this a_s : Nat} {w_refusals w_image w_read w_tape w_told w_met w_best w_kept w_squares w_far w_queue : Value} {v_s : IA} {v_isImage : Int32} {v_taped : Int32} {v_at : Int32} {v_wrongHour : Int32} {v_wrongThing : Int32} {v_soonest : Int32} {v_bestSteps : Int32} {x1 : Int32} {K : Int32 → Prop} {E35 : Int32 → Prop} (ha : am p s m args c cX11_isLate 4 RX11 wsX11_isLate D cy A) (hr : rtI p l e { frames := 3, cells := 0, slots := 0, locals := 234 } s m args below meth c 0 0 Q cX11_isLate D A (fun (u : Unit) => (w_X11_isLate cy a_this a_s w_refusals w_image w_read w_tape w_told w_met w_best w_kept w_squares w_far w_queue v_s v_isImage v_taped v_at v_wrongHour v_wrongThing v_soonest v_bestSteps)) (fun (r : Int32) (u : Unit) => nz r ∧ K r)) (hE35 : ∀ (x2' : Int32) (H : Heap) (locs : List Loc) (ls : Array Slot), E35 x2' → wd D A s.heap (w_X11_isLate cy a_this a_s w_refusals w_image w_read w_tape w_told w_met w_best w_kept w_squares w_far w_queue v_s v_isImage v_taped v_at v_wrongHour v_wrongThing v_soonest v_bestSteps) H locs → lv_has ls 4 [(0, .ref a_this), (1, .int x1), (2, .int x2')] → W p l e { frames := 3, cells := 0, slots := 0, locals := 234 } s m args below meth c H locs 0 0 Q (F0 m 35 ls [])) : ∀ (n : Nat) (x2 : Int32) (x3 : Int32) (H : Heap) (locs : List Loc) (ls : Array Slot), wp_X11_isLate_5 x1 v_s E35 K n x2 x3 → wd D A s.heap (w_X11_isLate cy a_this a_s w_refusals w_image w_read w_tape w_told w_met w_best w_kept w_squares w_far w_queue v_s v_isImage v_taped v_at v_wrongHour v_wrongThing v_soonest v_bestSteps) H locs → lv_has ls 4 [(0, .ref a_this), (1, .int x1), (2, .int x2), (3, .int x3)] → W p l e { frames := 3, cells := 0, slots := 0, locals := 234 } s m args below meth c H locs 0 0 Q (F0 m 5 ls []) := by
  have hx := ha.1
  have hb := ha.2.1
  intro n
  induction n with
  | zero => exact fun _ _ _ _ _ h _ _ => False.elim h
  | succ n ih =>
    intro x2 x3 H locs ls h hw hl
    have h : (x1 ≤ x3 → E35 x2) ∧ (¬ (x1 ≤ x3) → wp_X11_roomOf x3 v_s (fun (r2 : Int32) => wp_X11_roomOf x1 v_s (fun (r3 : Int32) => (r2 = r3 → wp_X11_isLate_5 x1 v_s E35 K n x3 (x3 + (1 : Int32))) ∧ (¬ (r2 = r3) → wp_X11_isLate_5 x1 v_s E35 K n x2 (x3 + (1 : Int32)))))) := h
    refine lv_iload_n hx hb dX11_isLate_5 rfl (lv_at hl 3 rfl) ?_
    refine lv_iload_n hx hb dX11_isLate_6 rfl (lv_at hl 1 rfl) ?_
    refine lv_icmp_ge (tgt := 35) hx hb dX11_isLate_7 (by decide) (fun c1 => ?_) (fun c1 => ?_)
    · have h := h.1 c1
      exact hE35 _ _ _ _ h hw (lv_sub hl [0, 1, 2] rfl)
    · have h := h.2 c1
      refine lv_aload_n hx hb dX11_isLate_10 rfl (lv_at hl 0 rfl) ?_
      refine lv_iload_n hx hb dX11_isLate_11 rfl (lv_at hl 3 rfl) ?_
      refine g_cvi (rm := { frames := 1, cells := 0, slots := 0, locals := 64 }) (wn := (fun (u : Unit) => (w_X11_isLate cy a_this a_s w_refusals w_image w_read w_tape w_told w_met w_best w_kept w_squares w_far w_queue v_s v_isImage v_taped v_at v_wrongHour v_wrongThing v_soonest v_bestSteps))) (As := [.int x3]) ha hw hl.1 (c_X11_roomOf (cy := cy)) (cwV 1 ha.2.2.2.2.1 gX11_isLate_X11_roomOf rfl rfl rfl hq_X11_roomOf ⟨Nat.le_of_ble_eq_true rfl, Nat.le_of_ble_eq_true rfl⟩) [0, 1] [] [0, 1] rfl rfl rfl rfl (by decide) rfl (fun _ => rfl) rfl rfl h rfl rfl (Nat.le_of_ble_eq_true rfl) dX11_isLate_12 ⟨Nat.le_refl _, Nat.le_refl _⟩ (fun r2 u H locs h hw => ?_)
      have hw : wd D A s.heap (w_X11_isLate cy a_this a_s w_refusals w_image w_read w_tape w_told w_met w_best w_kept w_squares w_far w_queue v_s v_isImage v_taped v_at v_wrongHour v_wrongThing v_soonest v_bestSteps) H locs := hw
      try dsimp only at h
      refine lv_aload_n hx hb dX11_isLate_15 rfl (lv_at hl 0 rfl) ?_
      refine lv_iload_n hx hb dX11_isLate_16 rfl (lv_at hl 1 rfl) ?_
      refine g_cvi (rm := { frames := 1, cells := 0, slots := 0, locals := 64 }) (wn := (fun (u : Unit) => (w_X11_isLate cy a_this a_s w_refusals w_image w_read w_tape w_told w_met w_best w_kept w_squares w_far w_queue v_s v_isImage v_taped v_at v_wrongHour v_wrongThing v_soonest v_bestSteps))) (As := [.int x1]) ha hw hl.1 (c_X11_roomOf (cy := cy)) (cwV 1 ha.2.2.2.2.1 gX11_isLate_X11_roomOf rfl rfl rfl hq_X11_roomOf ⟨Nat.le_of_ble_eq_true rfl, Nat.le_of_ble_eq_true rfl⟩) [0, 1] [] [0, 1] rfl rfl rfl rfl (by decide) rfl (fun _ => rfl) rfl rfl h rfl rfl (Nat.le_of_ble_eq_true rfl) dX11_isLate_17 ⟨Nat.le_refl _, Nat.le_refl _⟩ (fun r3 u H locs h hw => ?_)
      have hw : wd D A s.heap (w_X11_isLate cy a_this a_s w_refusals w_image w_read w_tape w_told w_met w_best w_kept w_squares w_far w_queue v_s v_isImage v_taped v_at v_wrongHour v_wrongThing v_soonest v_bestSteps) H locs := hw
      try dsimp only at h
      refine lv_icmp_ne (tgt := 27) hx hb dX11_isLate_20 (by decide) (fun c4 => ?_) (fun c4 => ?_)
      · have h := h.2 c4
        refine lv_iload_n hx hb dX11_isLate_27 rfl (lv_at hl 2 rfl) ?_
        refine lv_istore_n (lv' := [(2, .int x2), (0, .ref a_this), (1, .int x1), (3, .int x3)]) hx hb dX11_isLate_28 rfl hl (by decide) rfl (fun ls hl => ?_)
        refine lv_iinc (v := x3 + (1 : Int32)) (lv' := [(3, .int (x3 + (1 : Int32))), (2, .int x2), (0, .ref a_this), (1, .int x1)]) hx hb dX11_isLate_29 hl (k := 3) rfl rfl (by decide) rfl (fun ls hl => ?_)
        refine lv_goto (tgt := 5) hx hb dX11_isLate_32 (by decide) ?_
        exact ih _ _ _ _ _ h hw (lv_sub hl [2, 3, 1, 0] rfl)
      · have h := h.1 c4
        refine lv_iload_n hx hb dX11_isLate_23 rfl (lv_at hl 3 rfl) ?_
        refine lv_goto (tgt := 28) hx hb dX11_isLate_24 (by decide) ?_
        refine lv_istore_n (lv' := [(2, .int x3), (0, .ref a_this), (1, .int x1), (3, .int x3)]) hx hb dX11_isLate_28 rfl hl (by decide) rfl (fun ls hl => ?_)
        refine lv_iinc (v := x3 + (1 : Int32)) (lv' := [(3, .int (x3 + (1 : Int32))), (2, .int x3), (0, .ref a_this), (1, .int x1)]) hx hb dX11_isLate_29 hl (k := 3) rfl rfl (by decide) rfl (fun ls hl => ?_)
        refine lv_goto (tgt := 5) hx hb dX11_isLate_32 (by decide) ?_
        exact ih _ _ _ _ _ h hw (lv_sub hl [2, 3, 1, 0] rfl)
def wp_X11_isLate (x1 : Int32) (v_s : IA) (K : Int32 → Prop) : Prop := ∃ n10 : Nat, wp_X11_isLate_5 x1 v_s (fun (x2_5 : Int32) => (x2_5 < 0 → K (0 : Int32)) ∧ (¬ (x2_5 < 0) → wp_X11_hourOf x1 v_s (fun (r7 : Int32) => wp_X11_endOf x2_5 v_s (fun (r8 : Int32) => ((r7 - r8) ≤ (v_s (6 : Int32).toNatClampNeg) → K (0 : Int32)) ∧ (¬ ((r7 - r8) ≤ (v_s (6 : Int32).toNatClampNeg)) → K (1 : Int32)))))) K n10 (-9 : Int32) (0 : Int32)
set_option maxHeartbeats 4000000 in
set_option maxRecDepth 100000 in
theorem c_X11_isLate {l : Launch} {D : va_G} {cy : ClassId} {a_this a_s : Nat} {w_refusals w_image w_read w_tape w_told w_met w_best w_kept w_squares w_far w_queue : Value} {v_s : IA} {v_isImage : Int32} {v_taped : Int32} {v_at : Int32} {v_wrongHour : Int32} {v_wrongThing : Int32} {v_soonest : Int32} {v_bestSteps : Int32} {x1 : Int32} {K : Int32 → Prop} : CtI l yX11_isLate wsX11_isLate { frames := 3, cells := 0, slots := 0, locals := 234 } 0 0 D cy [.ref a_this, .int x1] (w_X11_isLate cy a_this a_s w_refusals w_image w_read w_tape w_told w_met w_best w_kept w_squares w_far w_queue v_s v_isImage v_taped v_at v_wrongHour v_wrongThing v_soonest v_bestSteps) (wp_X11_isLate x1 v_s K) (fun (u : Unit) => (w_X11_isLate cy a_this a_s w_refusals w_image w_read w_tape w_told w_met w_best w_kept w_squares w_far w_queue v_s v_isImage v_taped v_at v_wrongHour v_wrongThing v_soonest v_bestSteps)) (fun (r : Int32) (u : Unit) => nz r ∧ K r) := by
  refine CtI.mk (cc := cX11_isLate) (nL := 4) (ty := .boolean) (by decide) rfl (Nat.le_of_ble_eq_true rfl) (fun r u h => h.1.nar) ?_
  intro p e s m args below meth c A Q ha hr _ h ls hl hw
  have ha : am p s m args c cX11_isLate 4 RX11 wsX11_isLate D cy A := ha
  have hx := ha.1
  have hb := ha.2.1
  have hl : lv_has ls 4 [(0, .ref a_this), (1, .int x1)] := hl
  have h : ∃ n10 : Nat, wp_X11_isLate_5 x1 v_s (fun (x2_5 : Int32) => (x2_5 < 0 → K (0 : Int32)) ∧ (¬ (x2_5 < 0) → wp_X11_hourOf x1 v_s (fun (r7 : Int32) => wp_X11_endOf x2_5 v_s (fun (r8 : Int32) => ((r7 - r8) ≤ (v_s (6 : Int32).toNatClampNeg) → K (0 : Int32)) ∧ (¬ ((r7 - r8) ≤ (v_s (6 : Int32).toNatClampNeg)) → K (1 : Int32)))))) K n10 (-9 : Int32) (0 : Int32) := h
  refine lv_bipush (v := (-9 : Int32)) hx hb dX11_isLate_0 (by decide) ?_
  refine lv_istore_n (lv' := [(2, .int (-9 : Int32)), (0, .ref a_this), (1, .int x1)]) hx hb dX11_isLate_2 rfl hl (by decide) rfl (fun ls hl => ?_)
  refine lv_iconst (v := (0 : Int32)) hx hb dX11_isLate_3 (by decide) ?_
  refine lv_istore_n (lv' := [(3, .int (0 : Int32)), (2, .int (-9 : Int32)), (0, .ref a_this), (1, .int x1)]) hx hb dX11_isLate_4 rfl hl (by decide) rfl (fun ls hl => ?_)
  obtain ⟨n9, h⟩ := h
  refine pl_X11_isLate_5 ha hr ?_ n9 _ _ _ _ _ h hw (lv_sub hl [2, 3, 1, 0] rfl)
  · intro x2_5 H locs ls h hw hl
    try dsimp only at h
    refine lv_iload_n hx hb dX11_isLate_35 rfl (lv_at hl 2 rfl) ?_
    refine lv_if_lt (tgt := 64) hx hb dX11_isLate_36 (by decide) (fun c6 => ?_) (fun c6 => ?_)
    · have h := h.1 c6
      refine lv_iconst (v := (0 : Int32)) hx hb dX11_isLate_64 (by decide) ?_
      exact hr _ _ () _ _ _ dX11_isLate_65 ⟨nz0, h⟩ hw
    · have h := h.2 c6
      refine lv_aload_n hx hb dX11_isLate_39 rfl (lv_at hl 0 rfl) ?_
      refine lv_iload_n hx hb dX11_isLate_40 rfl (lv_at hl 1 rfl) ?_
      refine g_cvi (rm := { frames := 1, cells := 0, slots := 0, locals := 64 }) (wn := (fun (u : Unit) => (w_X11_isLate cy a_this a_s w_refusals w_image w_read w_tape w_told w_met w_best w_kept w_squares w_far w_queue v_s v_isImage v_taped v_at v_wrongHour v_wrongThing v_soonest v_bestSteps))) (As := [.int x1]) ha hw hl.1 (c_X11_hourOf (cy := cy)) (cwV 1 ha.2.2.2.2.1 gX11_isLate_X11_hourOf rfl rfl rfl hq_X11_hourOf ⟨Nat.le_of_ble_eq_true rfl, Nat.le_of_ble_eq_true rfl⟩) [0, 1] [] [0, 1] rfl rfl rfl rfl (by decide) rfl (fun _ => rfl) rfl rfl h rfl rfl (Nat.le_of_ble_eq_true rfl) dX11_isLate_41 ⟨Nat.le_refl _, Nat.le_refl _⟩ (fun r7 u H locs h hw => ?_)
      have hw : wd D A s.heap (w_X11_isLate cy a_this a_s w_refusals w_image w_read w_tape w_told w_met w_best w_kept w_squares w_far w_queue v_s v_isImage v_taped v_at v_wrongHour v_wrongThing v_soonest v_bestSteps) H locs := hw
      try dsimp only at h
      refine lv_aload_n hx hb dX11_isLate_44 rfl (lv_at hl 0 rfl) ?_
      refine lv_iload_n hx hb dX11_isLate_45 rfl (lv_at hl 2 rfl) ?_
      refine g_cvi (rm := { frames := 2, cells := 0, slots := 0, locals := 149 }) (wn := (fun (u : Unit) => (w_X11_isLate cy a_this a_s w_refusals w_image w_read w_tape w_told w_met w_best w_kept w_squares w_far w_queue v_s v_isImage v_taped v_at v_wrongHour v_wrongThing v_soonest v_bestSteps))) (As := [.int x2_5]) ha hw hl.1 (c_X11_endOf (cy := cy)) (cwV 1 ha.2.2.2.2.1 gX11_isLate_X11_endOf rfl rfl rfl hq_X11_endOf ⟨Nat.le_of_ble_eq_true rfl, Nat.le_of_ble_eq_true rfl⟩) [0, 1] [] [0, 1] rfl rfl rfl rfl (by decide) rfl (fun _ => rfl) rfl rfl h rfl rfl (Nat.le_of_ble_eq_true rfl) dX11_isLate_46 ⟨Nat.le_refl _, Nat.le_refl _⟩ (fun r8 u H locs h hw => ?_)
      have hw : wd D A s.heap (w_X11_isLate cy a_this a_s w_refusals w_image w_read w_tape w_told w_met w_best w_kept w_squares w_far w_queue v_s v_isImage v_taped v_at v_wrongHour v_wrongThing v_soonest v_bestSteps) H locs := hw
      try dsimp only at h
      refine lv_isub hx hb dX11_isLate_49 ?_
      refine lv_aload_n hx hb dX11_isLate_50 rfl (lv_at hl 0 rfl) ?_
      refine g_get (ci := 11) ha hw 0 1 rfl hi_X11_isLate_11 (by decide) (List.mem_of_getElem? (i := 1) rfl) rfl rfl dX11_isLate_51 ?_
      refine lv_bipush (v := (6 : Int32)) hx hb dX11_isLate_54 (by decide) ?_
      refine g_ald ha hw 1 rfl (vp_in_iff.mpr (by decide)) dX11_isLate_56 ?_
      refine lv_icmp_le (tgt := 64) hx hb dX11_isLate_57 (by decide) (fun c9 => ?_) (fun c9 => ?_)
      · have h := h.1 c9
        refine lv_iconst (v := (0 : Int32)) hx hb dX11_isLate_64 (by decide) ?_
        exact hr _ _ () _ _ _ dX11_isLate_65 ⟨nz0, h⟩ hw
      · have h := h.2 c9
        refine lv_iconst (v := (1 : Int32)) hx hb dX11_isLate_60 (by decide) ?_
        refine lv_goto (tgt := 65) hx hb dX11_isLate_61 (by decide) ?_
        exact hr _ _ () _ _ _ dX11_isLate_65 ⟨nz1, h⟩ hw
theorem hq_X11_isWrong : yX11_isWrong.cls = RX11 ∧ yX11_isWrong.cls ≠ "java/lang/invoke/MethodHandle" ∧ yX11_isWrong.cls ≠ "java/lang/invoke/VarHandle" ∧ (parseMethodDescriptor yX11_isWrong.desc).map (fun d => d.parameters.length) = some 2 := by decide +kernel
def w_X11_isWrong (cy : ClassId) (a_this a_s : Nat) (w_refusals w_image w_read w_tape w_told w_met w_best w_kept w_squares w_far w_queue : Value) (v_s : IA) (v_isImage : Int32) (v_taped : Int32) (v_at : Int32) (v_wrongHour : Int32) (v_wrongThing : Int32) (v_soonest : Int32) (v_bestSteps : Int32) : va_W := [(a_this, .inr (11, [w_refusals, .ref a_s, w_image, w_read, .int v_isImage, w_tape, w_told, .int v_taped, .int v_at, w_met, .int v_wrongHour, .int v_wrongThing, w_best, w_kept, .int v_soonest, .int v_bestSteps, w_squares, w_far, w_queue])), (a_s, .inl (cy, 120, .inl v_s))]
theorem hi_X11_isWrong_11 : ∀ w ∈ u_ws RX11 TX11 19, w ∈ wsX11_isWrong := fun _ h => List.mem_cons_of_mem _ (List.mem_append_right _ h)
def wp_X11_isWrong_120 (x1 : Int32) (v_s : IA) (K : Int32 → Prop) : Prop := wp_X11_roomOf x1 v_s (fun (r9 : Int32) => wp_X11_coatsOf r9 x1 v_s (fun (r10 : Int32) => wp_X11_roomOf x1 v_s (fun (r11 : Int32) => vp_in ((15 : Int32) + r11) 120 ∧ ((r10 < (v_s ((15 : Int32) + r11).toNatClampNeg) → K (0 : Int32)) ∧ (¬ (r10 < (v_s ((15 : Int32) + r11).toNatClampNeg)) → K (1 : Int32))))))
set_option maxHeartbeats 4000000 in
set_option maxRecDepth 100000 in
theorem pl_X11_isWrong_120 {p : Program} {l : Launch} {e : Env} {s : State} {m : MethodId} {args : Array Value} {below : List Frame} {meth : Method} {c : Code} {A : Nat → Prop} {Q : State → Prop} {D : va_G} {cy : ClassId} {a_this a_s : Nat} {w_refusals w_image w_read w_tape w_told w_met w_best w_kept w_squares w_far w_queue : Value} {v_s : IA} {v_isImage : Int32} {v_taped : Int32} {v_at : Int32} {v_wrongHour : Int32} {v_wrongThing : Int32} {v_soonest : Int32} {v_bestSteps : Int32} {x1 : Int32} {K : Int32 → Prop} (ha : am p s m args c cX11_isWrong 3 RX11 wsX11_isWrong D cy A) (hr : rtI p l e { frames := 6, cells := 0, slots := 0, locals := 496 } s m args below meth c 0 0 Q cX11_isWrong D A (fun (u : Unit) => (w_X11_isWrong cy a_this a_s w_refusals w_image w_read w_tape w_told w_met w_best w_kept w_squares w_far w_queue v_s v_isImage v_taped v_at v_wrongHour v_wrongThing v_soonest v_bestSteps)) (fun (r : Int32) (u : Unit) => nz r ∧ K r)) {H : Heap} {locs : List Loc} {ls : Array Slot} : wp_X11_isWrong_120 x1 v_s K → wd D A s.heap (w_X11_isWrong cy a_this a_s w_refusals w_image w_read w_tape w_told w_met w_best w_kept w_squares w_far w_queue v_s v_isImage v_taped v_at v_wrongHour v_wrongThing v_soonest v_bestSteps) H locs → lv_has ls 3 [(0, .ref a_this), (1, .int x1)] → W p l e { frames := 6, cells := 0, slots := 0, locals := 496 } s m args below meth c H locs 0 0 Q (F0 m 120 ls []) := by
  have hx := ha.1
  have hb := ha.2.1
  intro h hw hl
  have h : wp_X11_roomOf x1 v_s (fun (r9 : Int32) => wp_X11_coatsOf r9 x1 v_s (fun (r10 : Int32) => wp_X11_roomOf x1 v_s (fun (r11 : Int32) => vp_in ((15 : Int32) + r11) 120 ∧ ((r10 < (v_s ((15 : Int32) + r11).toNatClampNeg) → K (0 : Int32)) ∧ (¬ (r10 < (v_s ((15 : Int32) + r11).toNatClampNeg)) → K (1 : Int32)))))) := h
  refine lv_aload_n hx hb dX11_isWrong_120 rfl (lv_at hl 0 rfl) ?_
  refine lv_aload_n hx hb dX11_isWrong_121 rfl (lv_at hl 0 rfl) ?_
  refine lv_iload_n hx hb dX11_isWrong_122 rfl (lv_at hl 1 rfl) ?_
  refine g_cvi (rm := { frames := 1, cells := 0, slots := 0, locals := 64 }) (wn := (fun (u : Unit) => (w_X11_isWrong cy a_this a_s w_refusals w_image w_read w_tape w_told w_met w_best w_kept w_squares w_far w_queue v_s v_isImage v_taped v_at v_wrongHour v_wrongThing v_soonest v_bestSteps))) (As := [.int x1]) ha hw hl.1 (c_X11_roomOf (cy := cy)) (cwV 1 ha.2.2.2.2.1 gX11_isWrong_X11_roomOf rfl rfl rfl hq_X11_roomOf ⟨Nat.le_of_ble_eq_true rfl, Nat.le_of_ble_eq_true rfl⟩) [0, 1] [] [0, 1] rfl rfl rfl rfl (by decide) rfl (fun _ => rfl) rfl rfl h rfl rfl (Nat.le_of_ble_eq_true rfl) dX11_isWrong_123 ⟨Nat.le_refl _, Nat.le_refl _⟩ (fun r9 u H locs h hw => ?_)
  have hw : wd D A s.heap (w_X11_isWrong cy a_this a_s w_refusals w_image w_read w_tape w_told w_met w_best w_kept w_squares w_far w_queue v_s v_isImage v_taped v_at v_wrongHour v_wrongThing v_soonest v_bestSteps) H locs := hw
  try dsimp only at h
  refine lv_iload_n hx hb dX11_isWrong_126 rfl (lv_at hl 1 rfl) ?_
  refine g_cvi (rm := { frames := 2, cells := 0, slots := 0, locals := 149 }) (wn := (fun (u : Unit) => (w_X11_isWrong cy a_this a_s w_refusals w_image w_read w_tape w_told w_met w_best w_kept w_squares w_far w_queue v_s v_isImage v_taped v_at v_wrongHour v_wrongThing v_soonest v_bestSteps))) (As := [.int r9, .int x1]) ha hw hl.1 (c_X11_coatsOf (cy := cy)) (cwV 2 ha.2.2.2.2.1 gX11_isWrong_X11_coatsOf rfl rfl rfl hq_X11_coatsOf ⟨Nat.le_of_ble_eq_true rfl, Nat.le_of_ble_eq_true rfl⟩) [0, 1] [] [0, 1] rfl rfl rfl rfl (by decide) rfl (fun _ => rfl) rfl rfl h rfl rfl (Nat.le_of_ble_eq_true rfl) dX11_isWrong_127 ⟨Nat.le_refl _, Nat.le_refl _⟩ (fun r10 u H locs h hw => ?_)
  have hw : wd D A s.heap (w_X11_isWrong cy a_this a_s w_refusals w_image w_read w_tape w_told w_met w_best w_kept w_squares w_far w_queue v_s v_isImage v_taped v_at v_wrongHour v_wrongThing v_soonest v_bestSteps) H locs := hw
  try dsimp only at h
  refine lv_aload_n hx hb dX11_isWrong_130 rfl (lv_at hl 0 rfl) ?_
  refine g_get (ci := 11) ha hw 0 1 rfl hi_X11_isWrong_11 (by decide) (List.mem_of_getElem? (i := 1) rfl) rfl rfl dX11_isWrong_131 ?_
  refine lv_bipush (v := (15 : Int32)) hx hb dX11_isWrong_134 (by decide) ?_
  refine lv_aload_n hx hb dX11_isWrong_136 rfl (lv_at hl 0 rfl) ?_
  refine lv_iload_n hx hb dX11_isWrong_137 rfl (lv_at hl 1 rfl) ?_
  refine g_cvi (rm := { frames := 1, cells := 0, slots := 0, locals := 64 }) (wn := (fun (u : Unit) => (w_X11_isWrong cy a_this a_s w_refusals w_image w_read w_tape w_told w_met w_best w_kept w_squares w_far w_queue v_s v_isImage v_taped v_at v_wrongHour v_wrongThing v_soonest v_bestSteps))) (As := [.int x1]) ha hw hl.1 (c_X11_roomOf (cy := cy)) (cwV 1 ha.2.2.2.2.1 gX11_isWrong_X11_roomOf rfl rfl rfl hq_X11_roomOf ⟨Nat.le_of_ble_eq_true rfl, Nat.le_of_ble_eq_true rfl⟩) [0, 1] [] [0, 1] rfl rfl rfl rfl (by decide) rfl (fun _ => rfl) rfl rfl h rfl rfl (Nat.le_of_ble_eq_true rfl) dX11_isWrong_138 ⟨Nat.le_refl _, Nat.le_refl _⟩ (fun r11 u H locs h hw => ?_)
  have hw : wd D A s.heap (w_X11_isWrong cy a_this a_s w_refusals w_image w_read w_tape w_told w_met w_best w_kept w_squares w_far w_queue v_s v_isImage v_taped v_at v_wrongHour v_wrongThing v_soonest v_bestSteps) H locs := hw
  try dsimp only at h
  refine lv_iadd hx hb dX11_isWrong_141 ?_
  obtain ⟨z12, h⟩ := h
  refine g_ald ha hw 1 rfl z12 dX11_isWrong_142 ?_
  refine lv_icmp_lt (tgt := 150) hx hb dX11_isWrong_143 (by decide) (fun c13 => ?_) (fun c13 => ?_)
  · have h := h.1 c13
    refine lv_iconst (v := (0 : Int32)) hx hb dX11_isWrong_150 (by decide) ?_
    exact hr _ _ () _ _ _ dX11_isWrong_151 ⟨nz0, h⟩ hw
  · have h := h.2 c13
    refine lv_iconst (v := (1 : Int32)) hx hb dX11_isWrong_146 (by decide) ?_
    refine lv_goto (tgt := 151) hx hb dX11_isWrong_147 (by decide) ?_
    exact hr _ _ () _ _ _ dX11_isWrong_151 ⟨nz1, h⟩ hw
def wp_X11_isWrong (x1 : Int32) (x2 : Int32) (v_s : IA) (K : Int32 → Prop) : Prop := (x2 = (1 : Int32) → wp_X11_whereOf x1 v_s (fun (r2 : Int32) => wp_X11_roomOf x1 v_s (fun (r3 : Int32) => wp_X11_hourOf x1 v_s (fun (r4 : Int32) => wp_X11_openAt r4 x1 v_s (fun (r5 : Int32) => wp_X11_comesTo r2 r3 r5 v_s (fun (r6 : Int32) => (r6 = 0 → K (1 : Int32)) ∧ (¬ (r6 = 0) → K (0 : Int32)))))))) ∧ (¬ x2 = (1 : Int32) → (x2 = (2 : Int32) → wp_X11_isWrong_120 x1 v_s K) ∧ (¬ x2 = (2 : Int32) → (x2 = (3 : Int32) → wp_X11_isWrong_120 x1 v_s K) ∧ (¬ x2 = (3 : Int32) → (x2 = (4 : Int32) → wp_X11_roomOf x1 v_s (fun (r16 : Int32) => wp_X11_hourOf x1 v_s (fun (r17 : Int32) => wp_X11_isFresh r16 r17 x1 v_s (fun (r18 : Int32) => K r18)))) ∧ (¬ x2 = (4 : Int32) → (x2 = (5 : Int32) → wp_X11_isLate x1 v_s (fun (r20 : Int32) => K r20)) ∧ (¬ x2 = (5 : Int32) → (x2 = (6 : Int32) → (x1 ≤ 0 → K (0 : Int32)) ∧ (¬ (x1 ≤ 0) → wp_X11_hourOf x1 v_s (fun (r23 : Int32) => wp_X11_endOf (x1 - (1 : Int32)) v_s (fun (r24 : Int32) => (r24 ≤ r23 → K (0 : Int32)) ∧ (¬ (r24 ≤ r23) → K (1 : Int32)))))) ∧ (¬ x2 = (6 : Int32) → wp_X11_isWrong_120 x1 v_s K))))))
set_option maxHeartbeats 4000000 in
set_option maxRecDepth 100000 in
theorem c_X11_isWrong {l : Launch} {D : va_G} {cy : ClassId} {a_this a_s : Nat} {w_refusals w_image w_read w_tape w_told w_met w_best w_kept w_squares w_far w_queue : Value} {v_s : IA} {v_isImage : Int32} {v_taped : Int32} {v_at : Int32} {v_wrongHour : Int32} {v_wrongThing : Int32} {v_soonest : Int32} {v_bestSteps : Int32} {x1 : Int32} {x2 : Int32} {K : Int32 → Prop} : CtI l yX11_isWrong wsX11_isWrong { frames := 6, cells := 0, slots := 0, locals := 496 } 0 0 D cy [.ref a_this, .int x1, .int x2] (w_X11_isWrong cy a_this a_s w_refusals w_image w_read w_tape w_told w_met w_best w_kept w_squares w_far w_queue v_s v_isImage v_taped v_at v_wrongHour v_wrongThing v_soonest v_bestSteps) (wp_X11_isWrong x1 x2 v_s K) (fun (u : Unit) => (w_X11_isWrong cy a_this a_s w_refusals w_image w_read w_tape w_told w_met w_best w_kept w_squares w_far w_queue v_s v_isImage v_taped v_at v_wrongHour v_wrongThing v_soonest v_bestSteps)) (fun (r : Int32) (u : Unit) => nz r ∧ K r) := by
  refine CtI.mk (cc := cX11_isWrong) (nL := 3) (ty := .boolean) (by decide) rfl (Nat.le_of_ble_eq_true rfl) (fun r u h => h.1.nar) ?_
  intro p e s m args below meth c A Q ha hr _ h ls hl hw
  have ha : am p s m args c cX11_isWrong 3 RX11 wsX11_isWrong D cy A := ha
  have hx := ha.1
  have hb := ha.2.1
  have hl : lv_has ls 3 [(0, .ref a_this), (1, .int x1), (2, .int x2)] := hl
  have h : (x2 = (1 : Int32) → wp_X11_whereOf x1 v_s (fun (r2 : Int32) => wp_X11_roomOf x1 v_s (fun (r3 : Int32) => wp_X11_hourOf x1 v_s (fun (r4 : Int32) => wp_X11_openAt r4 x1 v_s (fun (r5 : Int32) => wp_X11_comesTo r2 r3 r5 v_s (fun (r6 : Int32) => (r6 = 0 → K (1 : Int32)) ∧ (¬ (r6 = 0) → K (0 : Int32)))))))) ∧ (¬ x2 = (1 : Int32) → (x2 = (2 : Int32) → wp_X11_isWrong_120 x1 v_s K) ∧ (¬ x2 = (2 : Int32) → (x2 = (3 : Int32) → wp_X11_isWrong_120 x1 v_s K) ∧ (¬ x2 = (3 : Int32) → (x2 = (4 : Int32) → wp_X11_roomOf x1 v_s (fun (r16 : Int32) => wp_X11_hourOf x1 v_s (fun (r17 : Int32) => wp_X11_isFresh r16 r17 x1 v_s (fun (r18 : Int32) => K r18)))) ∧ (¬ x2 = (4 : Int32) → (x2 = (5 : Int32) → wp_X11_isLate x1 v_s (fun (r20 : Int32) => K r20)) ∧ (¬ x2 = (5 : Int32) → (x2 = (6 : Int32) → (x1 ≤ 0 → K (0 : Int32)) ∧ (¬ (x1 ≤ 0) → wp_X11_hourOf x1 v_s (fun (r23 : Int32) => wp_X11_endOf (x1 - (1 : Int32)) v_s (fun (r24 : Int32) => (r24 ≤ r23 → K (0 : Int32)) ∧ (¬ (r24 ≤ r23) → K (1 : Int32)))))) ∧ (¬ x2 = (6 : Int32) → wp_X11_isWrong_120 x1 v_s K)))))) := h
  refine lv_iload_n hx hb dX11_isWrong_0 rfl (lv_at hl 2 rfl) ?_
  by_cases c1 : x2 = (1 : Int32)
  · have h := h.1 c1
    refine lv_tableIn (off := 39) (tgt := 40) hx hb dX11_isWrong_1 (by rw [c1]; decide) (by rw [c1]; decide) (by rw [c1]; decide) (by decide) ?_
    refine lv_aload_n hx hb dX11_isWrong_40 rfl (lv_at hl 0 rfl) ?_
    refine lv_aload_n hx hb dX11_isWrong_41 rfl (lv_at hl 0 rfl) ?_
    refine lv_iload_n hx hb dX11_isWrong_42 rfl (lv_at hl 1 rfl) ?_
    refine g_cvi (rm := { frames := 5, cells := 0, slots := 0, locals := 411 }) (wn := (fun (u : Unit) => (w_X11_isWrong cy a_this a_s w_refusals w_image w_read w_tape w_told w_met w_best w_kept w_squares w_far w_queue v_s v_isImage v_taped v_at v_wrongHour v_wrongThing v_soonest v_bestSteps))) (As := [.int x1]) ha hw hl.1 (c_X11_whereOf (cy := cy)) (cwV 1 ha.2.2.2.2.1 gX11_isWrong_X11_whereOf rfl rfl rfl hq_X11_whereOf ⟨Nat.le_of_ble_eq_true rfl, Nat.le_of_ble_eq_true rfl⟩) [0, 1] [] [0, 1] rfl rfl rfl rfl (by decide) rfl (fun _ => rfl) rfl rfl h rfl rfl (Nat.le_of_ble_eq_true rfl) dX11_isWrong_43 ⟨Nat.le_refl _, Nat.le_refl _⟩ (fun r2 u H locs h hw => ?_)
    have hw : wd D A s.heap (w_X11_isWrong cy a_this a_s w_refusals w_image w_read w_tape w_told w_met w_best w_kept w_squares w_far w_queue v_s v_isImage v_taped v_at v_wrongHour v_wrongThing v_soonest v_bestSteps) H locs := hw
    try dsimp only at h
    refine lv_aload_n hx hb dX11_isWrong_46 rfl (lv_at hl 0 rfl) ?_
    refine lv_iload_n hx hb dX11_isWrong_47 rfl (lv_at hl 1 rfl) ?_
    refine g_cvi (rm := { frames := 1, cells := 0, slots := 0, locals := 64 }) (wn := (fun (u : Unit) => (w_X11_isWrong cy a_this a_s w_refusals w_image w_read w_tape w_told w_met w_best w_kept w_squares w_far w_queue v_s v_isImage v_taped v_at v_wrongHour v_wrongThing v_soonest v_bestSteps))) (As := [.int x1]) ha hw hl.1 (c_X11_roomOf (cy := cy)) (cwV 1 ha.2.2.2.2.1 gX11_isWrong_X11_roomOf rfl rfl rfl hq_X11_roomOf ⟨Nat.le_of_ble_eq_true rfl, Nat.le_of_ble_eq_true rfl⟩) [0, 1] [] [0, 1] rfl rfl rfl rfl (by decide) rfl (fun _ => rfl) rfl rfl h rfl rfl (Nat.le_of_ble_eq_true rfl) dX11_isWrong_48 ⟨Nat.le_refl _, Nat.le_refl _⟩ (fun r3 u H locs h hw => ?_)
    have hw : wd D A s.heap (w_X11_isWrong cy a_this a_s w_refusals w_image w_read w_tape w_told w_met w_best w_kept w_squares w_far w_queue v_s v_isImage v_taped v_at v_wrongHour v_wrongThing v_soonest v_bestSteps) H locs := hw
    try dsimp only at h
    refine lv_aload_n hx hb dX11_isWrong_51 rfl (lv_at hl 0 rfl) ?_
    refine lv_aload_n hx hb dX11_isWrong_52 rfl (lv_at hl 0 rfl) ?_
    refine lv_iload_n hx hb dX11_isWrong_53 rfl (lv_at hl 1 rfl) ?_
    refine g_cvi (rm := { frames := 1, cells := 0, slots := 0, locals := 64 }) (wn := (fun (u : Unit) => (w_X11_isWrong cy a_this a_s w_refusals w_image w_read w_tape w_told w_met w_best w_kept w_squares w_far w_queue v_s v_isImage v_taped v_at v_wrongHour v_wrongThing v_soonest v_bestSteps))) (As := [.int x1]) ha hw hl.1 (c_X11_hourOf (cy := cy)) (cwV 1 ha.2.2.2.2.1 gX11_isWrong_X11_hourOf rfl rfl rfl hq_X11_hourOf ⟨Nat.le_of_ble_eq_true rfl, Nat.le_of_ble_eq_true rfl⟩) [0, 1] [] [0, 1] rfl rfl rfl rfl (by decide) rfl (fun _ => rfl) rfl rfl h rfl rfl (Nat.le_of_ble_eq_true rfl) dX11_isWrong_54 ⟨Nat.le_refl _, Nat.le_refl _⟩ (fun r4 u H locs h hw => ?_)
    have hw : wd D A s.heap (w_X11_isWrong cy a_this a_s w_refusals w_image w_read w_tape w_told w_met w_best w_kept w_squares w_far w_queue v_s v_isImage v_taped v_at v_wrongHour v_wrongThing v_soonest v_bestSteps) H locs := hw
    try dsimp only at h
    refine lv_iload_n hx hb dX11_isWrong_57 rfl (lv_at hl 1 rfl) ?_
    refine g_cvi (rm := { frames := 3, cells := 0, slots := 0, locals := 234 }) (wn := (fun (u : Unit) => (w_X11_isWrong cy a_this a_s w_refusals w_image w_read w_tape w_told w_met w_best w_kept w_squares w_far w_queue v_s v_isImage v_taped v_at v_wrongHour v_wrongThing v_soonest v_bestSteps))) (As := [.int r4, .int x1]) ha hw hl.1 (c_X11_openAt (cy := cy)) (cwV 2 ha.2.2.2.2.1 gX11_isWrong_X11_openAt rfl rfl rfl hq_X11_openAt ⟨Nat.le_of_ble_eq_true rfl, Nat.le_of_ble_eq_true rfl⟩) [0, 1] [] [0, 1] rfl rfl rfl rfl (by decide) rfl (fun _ => rfl) rfl rfl h rfl rfl (Nat.le_of_ble_eq_true rfl) dX11_isWrong_58 ⟨Nat.le_refl _, Nat.le_refl _⟩ (fun r5 u H locs h hw => ?_)
    have hw : wd D A s.heap (w_X11_isWrong cy a_this a_s w_refusals w_image w_read w_tape w_told w_met w_best w_kept w_squares w_far w_queue v_s v_isImage v_taped v_at v_wrongHour v_wrongThing v_soonest v_bestSteps) H locs := hw
    try dsimp only at h
    refine g_cvi (rm := { frames := 3, cells := 0, slots := 0, locals := 242 }) (wn := (fun (u : Unit) => (w_X11_isWrong cy a_this a_s w_refusals w_image w_read w_tape w_told w_met w_best w_kept w_squares w_far w_queue v_s v_isImage v_taped v_at v_wrongHour v_wrongThing v_soonest v_bestSteps))) (As := [.int r2, .int r3, .int r5]) ha hw hl.1 (c_X11_comesTo (cy := cy)) (cwV 3 ha.2.2.2.2.1 gX11_isWrong_X11_comesTo rfl rfl rfl hq_X11_comesTo ⟨Nat.le_of_ble_eq_true rfl, Nat.le_of_ble_eq_true rfl⟩) [0, 1] [] [0, 1] rfl rfl rfl rfl (by decide) rfl (fun _ => rfl) rfl rfl h rfl rfl (Nat.le_of_ble_eq_true rfl) dX11_isWrong_61 ⟨Nat.le_refl _, Nat.le_refl _⟩ (fun r6 u H locs h hw => ?_)
    have hw : wd D A s.heap (w_X11_isWrong cy a_this a_s w_refusals w_image w_read w_tape w_told w_met w_best w_kept w_squares w_far w_queue v_s v_isImage v_taped v_at v_wrongHour v_wrongThing v_soonest v_bestSteps) H locs := hw
    obtain ⟨zr6, h⟩ := h
    try dsimp only at h
    refine lv_if_ne (tgt := 71) hx hb dX11_isWrong_64 (by decide) (fun c7 => ?_) (fun c7 => ?_)
    · have h := h.2 c7
      refine lv_iconst (v := (0 : Int32)) hx hb dX11_isWrong_71 (by decide) ?_
      exact hr _ _ () _ _ _ dX11_isWrong_72 ⟨nz0, h⟩ hw
    · have h := h.1 c7
      refine lv_iconst (v := (1 : Int32)) hx hb dX11_isWrong_67 (by decide) ?_
      refine lv_goto (tgt := 72) hx hb dX11_isWrong_68 (by decide) ?_
      exact hr _ _ () _ _ _ dX11_isWrong_72 ⟨nz1, h⟩ hw
  have h := h.2 c1
  by_cases c8 : x2 = (2 : Int32)
  · have h := h.1 c8
    refine lv_tableIn (off := 119) (tgt := 120) hx hb dX11_isWrong_1 (by rw [c8]; decide) (by rw [c8]; decide) (by rw [c8]; decide) (by decide) ?_
    refine pl_X11_isWrong_120 ha hr h hw (lv_sub hl [0, 1] rfl)
  have h := h.2 c8
  by_cases c14 : x2 = (3 : Int32)
  · have h := h.1 c14
    refine lv_tableIn (off := 119) (tgt := 120) hx hb dX11_isWrong_1 (by rw [c14]; decide) (by rw [c14]; decide) (by rw [c14]; decide) (by decide) ?_
    refine pl_X11_isWrong_120 ha hr h hw (lv_sub hl [0, 1] rfl)
  have h := h.2 c14
  by_cases c15 : x2 = (4 : Int32)
  · have h := h.1 c15
    refine lv_tableIn (off := 72) (tgt := 73) hx hb dX11_isWrong_1 (by rw [c15]; decide) (by rw [c15]; decide) (by rw [c15]; decide) (by decide) ?_
    refine lv_aload_n hx hb dX11_isWrong_73 rfl (lv_at hl 0 rfl) ?_
    refine lv_aload_n hx hb dX11_isWrong_74 rfl (lv_at hl 0 rfl) ?_
    refine lv_iload_n hx hb dX11_isWrong_75 rfl (lv_at hl 1 rfl) ?_
    refine g_cvi (rm := { frames := 1, cells := 0, slots := 0, locals := 64 }) (wn := (fun (u : Unit) => (w_X11_isWrong cy a_this a_s w_refusals w_image w_read w_tape w_told w_met w_best w_kept w_squares w_far w_queue v_s v_isImage v_taped v_at v_wrongHour v_wrongThing v_soonest v_bestSteps))) (As := [.int x1]) ha hw hl.1 (c_X11_roomOf (cy := cy)) (cwV 1 ha.2.2.2.2.1 gX11_isWrong_X11_roomOf rfl rfl rfl hq_X11_roomOf ⟨Nat.le_of_ble_eq_true rfl, Nat.le_of_ble_eq_true rfl⟩) [0, 1] [] [0, 1] rfl rfl rfl rfl (by decide) rfl (fun _ => rfl) rfl rfl h rfl rfl (Nat.le_of_ble_eq_true rfl) dX11_isWrong_76 ⟨Nat.le_refl _, Nat.le_refl _⟩ (fun r16 u H locs h hw => ?_)
    have hw : wd D A s.heap (w_X11_isWrong cy a_this a_s w_refusals w_image w_read w_tape w_told w_met w_best w_kept w_squares w_far w_queue v_s v_isImage v_taped v_at v_wrongHour v_wrongThing v_soonest v_bestSteps) H locs := hw
    try dsimp only at h
    refine lv_aload_n hx hb dX11_isWrong_79 rfl (lv_at hl 0 rfl) ?_
    refine lv_iload_n hx hb dX11_isWrong_80 rfl (lv_at hl 1 rfl) ?_
    refine g_cvi (rm := { frames := 1, cells := 0, slots := 0, locals := 64 }) (wn := (fun (u : Unit) => (w_X11_isWrong cy a_this a_s w_refusals w_image w_read w_tape w_told w_met w_best w_kept w_squares w_far w_queue v_s v_isImage v_taped v_at v_wrongHour v_wrongThing v_soonest v_bestSteps))) (As := [.int x1]) ha hw hl.1 (c_X11_hourOf (cy := cy)) (cwV 1 ha.2.2.2.2.1 gX11_isWrong_X11_hourOf rfl rfl rfl hq_X11_hourOf ⟨Nat.le_of_ble_eq_true rfl, Nat.le_of_ble_eq_true rfl⟩) [0, 1] [] [0, 1] rfl rfl rfl rfl (by decide) rfl (fun _ => rfl) rfl rfl h rfl rfl (Nat.le_of_ble_eq_true rfl) dX11_isWrong_81 ⟨Nat.le_refl _, Nat.le_refl _⟩ (fun r17 u H locs h hw => ?_)
    have hw : wd D A s.heap (w_X11_isWrong cy a_this a_s w_refusals w_image w_read w_tape w_told w_met w_best w_kept w_squares w_far w_queue v_s v_isImage v_taped v_at v_wrongHour v_wrongThing v_soonest v_bestSteps) H locs := hw
    try dsimp only at h
    refine lv_iload_n hx hb dX11_isWrong_84 rfl (lv_at hl 1 rfl) ?_
    refine g_cvi (rm := { frames := 3, cells := 0, slots := 0, locals := 234 }) (wn := (fun (u : Unit) => (w_X11_isWrong cy a_this a_s w_refusals w_image w_read w_tape w_told w_met w_best w_kept w_squares w_far w_queue v_s v_isImage v_taped v_at v_wrongHour v_wrongThing v_soonest v_bestSteps))) (As := [.int r16, .int r17, .int x1]) ha hw hl.1 (c_X11_isFresh (cy := cy)) (cwV 3 ha.2.2.2.2.1 gX11_isWrong_X11_isFresh rfl rfl rfl hq_X11_isFresh ⟨Nat.le_of_ble_eq_true rfl, Nat.le_of_ble_eq_true rfl⟩) [0, 1] [] [0, 1] rfl rfl rfl rfl (by decide) rfl (fun _ => rfl) rfl rfl h rfl rfl (Nat.le_of_ble_eq_true rfl) dX11_isWrong_85 ⟨Nat.le_refl _, Nat.le_refl _⟩ (fun r18 u H locs h hw => ?_)
    have hw : wd D A s.heap (w_X11_isWrong cy a_this a_s w_refusals w_image w_read w_tape w_told w_met w_best w_kept w_squares w_far w_queue v_s v_isImage v_taped v_at v_wrongHour v_wrongThing v_soonest v_bestSteps) H locs := hw
    obtain ⟨zr18, h⟩ := h
    try dsimp only at h
    exact hr _ _ () _ _ _ dX11_isWrong_88 ⟨zr18, h⟩ hw
  have h := h.2 c15
  by_cases c19 : x2 = (5 : Int32)
  · have h := h.1 c19
    refine lv_tableIn (off := 88) (tgt := 89) hx hb dX11_isWrong_1 (by rw [c19]; decide) (by rw [c19]; decide) (by rw [c19]; decide) (by decide) ?_
    refine lv_aload_n hx hb dX11_isWrong_89 rfl (lv_at hl 0 rfl) ?_
    refine lv_iload_n hx hb dX11_isWrong_90 rfl (lv_at hl 1 rfl) ?_
    refine g_cvi (rm := { frames := 3, cells := 0, slots := 0, locals := 234 }) (wn := (fun (u : Unit) => (w_X11_isWrong cy a_this a_s w_refusals w_image w_read w_tape w_told w_met w_best w_kept w_squares w_far w_queue v_s v_isImage v_taped v_at v_wrongHour v_wrongThing v_soonest v_bestSteps))) (As := [.int x1]) ha hw hl.1 (c_X11_isLate (cy := cy)) (cwV 1 ha.2.2.2.2.1 gX11_isWrong_X11_isLate rfl rfl rfl hq_X11_isLate ⟨Nat.le_of_ble_eq_true rfl, Nat.le_of_ble_eq_true rfl⟩) [0, 1] [] [0, 1] rfl rfl rfl rfl (by decide) rfl (fun _ => rfl) rfl rfl h rfl rfl (Nat.le_of_ble_eq_true rfl) dX11_isWrong_91 ⟨Nat.le_refl _, Nat.le_refl _⟩ (fun r20 u H locs h hw => ?_)
    have hw : wd D A s.heap (w_X11_isWrong cy a_this a_s w_refusals w_image w_read w_tape w_told w_met w_best w_kept w_squares w_far w_queue v_s v_isImage v_taped v_at v_wrongHour v_wrongThing v_soonest v_bestSteps) H locs := hw
    obtain ⟨zr20, h⟩ := h
    try dsimp only at h
    exact hr _ _ () _ _ _ dX11_isWrong_94 ⟨zr20, h⟩ hw
  have h := h.2 c19
  by_cases c21 : x2 = (6 : Int32)
  · have h := h.1 c21
    refine lv_tableIn (off := 94) (tgt := 95) hx hb dX11_isWrong_1 (by rw [c21]; decide) (by rw [c21]; decide) (by rw [c21]; decide) (by decide) ?_
    refine lv_iload_n hx hb dX11_isWrong_95 rfl (lv_at hl 1 rfl) ?_
    refine lv_if_le (tgt := 118) hx hb dX11_isWrong_96 (by decide) (fun c22 => ?_) (fun c22 => ?_)
    · have h := h.1 c22
      refine lv_iconst (v := (0 : Int32)) hx hb dX11_isWrong_118 (by decide) ?_
      exact hr _ _ () _ _ _ dX11_isWrong_119 ⟨nz0, h⟩ hw
    · have h := h.2 c22
      refine lv_aload_n hx hb dX11_isWrong_99 rfl (lv_at hl 0 rfl) ?_
      refine lv_iload_n hx hb dX11_isWrong_100 rfl (lv_at hl 1 rfl) ?_
      refine g_cvi (rm := { frames := 1, cells := 0, slots := 0, locals := 64 }) (wn := (fun (u : Unit) => (w_X11_isWrong cy a_this a_s w_refusals w_image w_read w_tape w_told w_met w_best w_kept w_squares w_far w_queue v_s v_isImage v_taped v_at v_wrongHour v_wrongThing v_soonest v_bestSteps))) (As := [.int x1]) ha hw hl.1 (c_X11_hourOf (cy := cy)) (cwV 1 ha.2.2.2.2.1 gX11_isWrong_X11_hourOf rfl rfl rfl hq_X11_hourOf ⟨Nat.le_of_ble_eq_true rfl, Nat.le_of_ble_eq_true rfl⟩) [0, 1] [] [0, 1] rfl rfl rfl rfl (by decide) rfl (fun _ => rfl) rfl rfl h rfl rfl (Nat.le_of_ble_eq_true rfl) dX11_isWrong_101 ⟨Nat.le_refl _, Nat.le_refl _⟩ (fun r23 u H locs h hw => ?_)
      have hw : wd D A s.heap (w_X11_isWrong cy a_this a_s w_refusals w_image w_read w_tape w_told w_met w_best w_kept w_squares w_far w_queue v_s v_isImage v_taped v_at v_wrongHour v_wrongThing v_soonest v_bestSteps) H locs := hw
      try dsimp only at h
      refine lv_aload_n hx hb dX11_isWrong_104 rfl (lv_at hl 0 rfl) ?_
      refine lv_iload_n hx hb dX11_isWrong_105 rfl (lv_at hl 1 rfl) ?_
      refine lv_iconst (v := (1 : Int32)) hx hb dX11_isWrong_106 (by decide) ?_
      refine lv_isub hx hb dX11_isWrong_107 ?_
      refine g_cvi (rm := { frames := 2, cells := 0, slots := 0, locals := 149 }) (wn := (fun (u : Unit) => (w_X11_isWrong cy a_this a_s w_refusals w_image w_read w_tape w_told w_met w_best w_kept w_squares w_far w_queue v_s v_isImage v_taped v_at v_wrongHour v_wrongThing v_soonest v_bestSteps))) (As := [.int (x1 - (1 : Int32))]) ha hw hl.1 (c_X11_endOf (cy := cy)) (cwV 1 ha.2.2.2.2.1 gX11_isWrong_X11_endOf rfl rfl rfl hq_X11_endOf ⟨Nat.le_of_ble_eq_true rfl, Nat.le_of_ble_eq_true rfl⟩) [0, 1] [] [0, 1] rfl rfl rfl rfl (by decide) rfl (fun _ => rfl) rfl rfl h rfl rfl (Nat.le_of_ble_eq_true rfl) dX11_isWrong_108 ⟨Nat.le_refl _, Nat.le_refl _⟩ (fun r24 u H locs h hw => ?_)
      have hw : wd D A s.heap (w_X11_isWrong cy a_this a_s w_refusals w_image w_read w_tape w_told w_met w_best w_kept w_squares w_far w_queue v_s v_isImage v_taped v_at v_wrongHour v_wrongThing v_soonest v_bestSteps) H locs := hw
      try dsimp only at h
      refine lv_icmp_ge (tgt := 118) hx hb dX11_isWrong_111 (by decide) (fun c25 => ?_) (fun c25 => ?_)
      · have h := h.1 c25
        refine lv_iconst (v := (0 : Int32)) hx hb dX11_isWrong_118 (by decide) ?_
        exact hr _ _ () _ _ _ dX11_isWrong_119 ⟨nz0, h⟩ hw
      · have h := h.2 c25
        refine lv_iconst (v := (1 : Int32)) hx hb dX11_isWrong_114 (by decide) ?_
        refine lv_goto (tgt := 119) hx hb dX11_isWrong_115 (by decide) ?_
        exact hr _ _ () _ _ _ dX11_isWrong_119 ⟨nz1, h⟩ hw
  have h := h.2 c21
  have c1T := lv_neT (a := 1) c1 (by decide)
  have c8T := lv_neT (a := 2) c8 (by decide)
  have c14T := lv_neT (a := 3) c14 (by decide)
  have c15T := lv_neT (a := 4) c15 (by decide)
  have c19T := lv_neT (a := 5) c19 (by decide)
  have c21T := lv_neT (a := 6) c21 (by decide)
  refine lv_tableOut (tgt := 120) hx hb dX11_isWrong_1 (by omega) (by decide) ?_
  refine pl_X11_isWrong_120 ha hr h hw (lv_sub hl [0, 1] rfl)
theorem hq_X11_findMet : yX11_findMet.cls = RX11 ∧ yX11_findMet.cls ≠ "java/lang/invoke/MethodHandle" ∧ yX11_findMet.cls ≠ "java/lang/invoke/VarHandle" ∧ (parseMethodDescriptor yX11_findMet.desc).map (fun d => d.parameters.length) = some 0 := by decide +kernel
def w_X11_findMet (cy : ClassId) (a_this a_s a_met : Nat) (w_refusals w_image w_read w_tape w_told w_best w_kept w_squares w_far w_queue : Value) (v_s : IA) (v_isImage : Int32) (v_taped : Int32) (v_at : Int32) (v_met : IA) (v_wrongHour : Int32) (v_wrongThing : Int32) (v_soonest : Int32) (v_bestSteps : Int32) : va_W := [(a_this, .inr (11, [w_refusals, .ref a_s, w_image, w_read, .int v_isImage, w_tape, w_told, .int v_taped, .int v_at, .ref a_met, .int v_wrongHour, .int v_wrongThing, w_best, w_kept, .int v_soonest, .int v_bestSteps, w_squares, w_far, w_queue])), (a_s, .inl (cy, 120, .inl v_s)), (a_met, .inl (cy, 64, .inl v_met))]
theorem hi_X11_findMet_11 : ∀ w ∈ u_ws RX11 TX11 19, w ∈ wsX11_findMet := fun _ h => List.mem_cons_of_mem _ (List.mem_append_right _ h)
def wp_X11_findMet_17 (v_s : IA) (E2 : Int32 → IA → Prop) (K : IA → Prop) : Nat → Int32 → Int32 → IA → Prop
  | 0, _, _, _ => False
  | n + 1, x1, x2, v_met => ((v_s (2 : Int32).toNatClampNeg) ≤ x2 → E2 (x1 + (1 : Int32)) v_met) ∧ (¬ ((v_s (2 : Int32).toNatClampNeg) ≤ x2) → vp_in x1 64 ∧ (vp_in ((45 : Int32) + ((4 : Int32) * x2)) 120 ∧ (vp_in (((45 : Int32) + ((4 : Int32) * x2)) + (1 : Int32)) 120 ∧ (wp_X11_comesTo (v_s ((45 : Int32) + ((4 : Int32) * x2)).toNatClampNeg) (v_s (((45 : Int32) + ((4 : Int32) * x2)) + (1 : Int32)).toNatClampNeg) x1 v_s (fun (r7 : Int32) => (r7 = 0 → wp_X11_findMet_17 v_s E2 K n x1 (x2 + (1 : Int32)) (upd v_met x1.toNatClampNeg ((v_met x1.toNatClampNeg) ||| (0 : Int32)))) ∧ (¬ (r7 = 0) → wp_X11_findMet_17 v_s E2 K n x1 (x2 + (1 : Int32)) (upd v_met x1.toNatClampNeg ((v_met x1.toNatClampNeg) ||| ((1 : Int32) <<< (x2 &&& 31))))))))))
set_option maxHeartbeats 4000000 in
set_option maxRecDepth 100000 in
theorem pl_X11_findMet_17 {p : Program} {l : Launch} {e : Env} {s : State} {m : MethodId} {args : Array Value} {below : List Frame} {meth : Method} {c : Code} {A : Nat → Prop} {Q : State → Prop} {D : va_G} {cy : ClassId} {a_this a_s a_met : Nat} {w_refusals w_image w_read w_tape w_told w_best w_kept w_squares w_far w_queue : Value} {v_s : IA} {v_isImage : Int32} {v_taped : Int32} {v_at : Int32} {v_wrongHour : Int32} {v_wrongThing : Int32} {v_soonest : Int32} {v_bestSteps : Int32} {K : IA → Prop} {E2 : Int32 → IA → Prop} (ha : am p s m args c cX11_findMet 3 RX11 wsX11_findMet D cy A) (hr : rtV p l e { frames := 4, cells := 0, slots := 0, locals := 329 } s m args below meth c 0 0 Q cX11_findMet D A (fun (u : IA) => (w_X11_findMet cy a_this a_s a_met w_refusals w_image w_read w_tape w_told w_best w_kept w_squares w_far w_queue v_s v_isImage v_taped v_at u v_wrongHour v_wrongThing v_soonest v_bestSteps)) (fun (u : IA) => K u)) (hE2 : ∀ (x1' : Int32) (v_met' : IA) (H : Heap) (locs : List Loc) (ls : Array Slot), E2 x1' v_met' → wd D A s.heap (w_X11_findMet cy a_this a_s a_met w_refusals w_image w_read w_tape w_told w_best w_kept w_squares w_far w_queue v_s v_isImage v_taped v_at v_met' v_wrongHour v_wrongThing v_soonest v_bestSteps) H locs → lv_has ls 3 [(0, .ref a_this), (1, .int x1')] → W p l e { frames := 4, cells := 0, slots := 0, locals := 329 } s m args below meth c H locs 0 0 Q (F0 m 2 ls [])) : ∀ (n : Nat) (x1 : Int32) (x2 : Int32) (v_met : IA) (H : Heap) (locs : List Loc) (ls : Array Slot), wp_X11_findMet_17 v_s E2 K n x1 x2 v_met → wd D A s.heap (w_X11_findMet cy a_this a_s a_met w_refusals w_image w_read w_tape w_told w_best w_kept w_squares w_far w_queue v_s v_isImage v_taped v_at v_met v_wrongHour v_wrongThing v_soonest v_bestSteps) H locs → lv_has ls 3 [(0, .ref a_this), (1, .int x1), (2, .int x2)] → W p l e { frames := 4, cells := 0, slots := 0, locals := 329 } s m args below meth c H locs 0 0 Q (F0 m 17 ls []) := by
  have hx := ha.1
  have hb := ha.2.1
  intro n
  induction n with
  | zero => exact fun _ _ _ _ _ _ h _ _ => False.elim h
  | succ n ih =>
    intro x1 x2 v_met H locs ls h hw hl
    have h : ((v_s (2 : Int32).toNatClampNeg) ≤ x2 → E2 (x1 + (1 : Int32)) v_met) ∧ (¬ ((v_s (2 : Int32).toNatClampNeg) ≤ x2) → vp_in x1 64 ∧ (vp_in ((45 : Int32) + ((4 : Int32) * x2)) 120 ∧ (vp_in (((45 : Int32) + ((4 : Int32) * x2)) + (1 : Int32)) 120 ∧ (wp_X11_comesTo (v_s ((45 : Int32) + ((4 : Int32) * x2)).toNatClampNeg) (v_s (((45 : Int32) + ((4 : Int32) * x2)) + (1 : Int32)).toNatClampNeg) x1 v_s (fun (r7 : Int32) => (r7 = 0 → wp_X11_findMet_17 v_s E2 K n x1 (x2 + (1 : Int32)) (upd v_met x1.toNatClampNeg ((v_met x1.toNatClampNeg) ||| (0 : Int32)))) ∧ (¬ (r7 = 0) → wp_X11_findMet_17 v_s E2 K n x1 (x2 + (1 : Int32)) (upd v_met x1.toNatClampNeg ((v_met x1.toNatClampNeg) ||| ((1 : Int32) <<< (x2 &&& 31)))))))))) := h
    refine lv_iload_n hx hb dX11_findMet_17 rfl (lv_at hl 2 rfl) ?_
    refine lv_aload_n hx hb dX11_findMet_18 rfl (lv_at hl 0 rfl) ?_
    refine g_get (ci := 11) ha hw 0 1 rfl hi_X11_findMet_11 (by decide) (List.mem_of_getElem? (i := 2) rfl) rfl rfl dX11_findMet_19 ?_
    refine lv_iconst (v := (2 : Int32)) hx hb dX11_findMet_22 (by decide) ?_
    refine g_ald ha hw 1 rfl (vp_in_iff.mpr (by decide)) dX11_findMet_23 ?_
    refine lv_icmp_ge (tgt := 81) hx hb dX11_findMet_24 (by decide) (fun c3 => ?_) (fun c3 => ?_)
    · have h := h.1 c3
      refine lv_iinc (v := x1 + (1 : Int32)) (lv' := [(1, .int (x1 + (1 : Int32))), (0, .ref a_this), (2, .int x2)]) hx hb dX11_findMet_81 hl (k := 1) rfl rfl (by decide) rfl (fun ls hl => ?_)
      refine lv_goto (tgt := 2) hx hb dX11_findMet_84 (by decide) ?_
      exact hE2 _ _ _ _ _ h hw (lv_sub hl [1, 0] rfl)
    · have h := h.2 c3
      refine lv_aload_n hx hb dX11_findMet_27 rfl (lv_at hl 0 rfl) ?_
      refine g_get (ci := 11) ha hw 0 9 rfl hi_X11_findMet_11 (by decide) (List.mem_of_getElem? (i := 1) rfl) rfl rfl dX11_findMet_28 ?_
      refine lv_iload_n hx hb dX11_findMet_31 rfl (lv_at hl 1 rfl) ?_
      refine lv_dup2_11 hx hb dX11_findMet_32 rfl rfl ?_
      obtain ⟨z4, h⟩ := h
      refine g_ald ha hw 2 rfl z4 dX11_findMet_33 ?_
      refine lv_aload_n hx hb dX11_findMet_34 rfl (lv_at hl 0 rfl) ?_
      refine lv_aload_n hx hb dX11_findMet_35 rfl (lv_at hl 0 rfl) ?_
      refine g_get (ci := 11) ha hw 0 1 rfl hi_X11_findMet_11 (by decide) (List.mem_of_getElem? (i := 2) rfl) rfl rfl dX11_findMet_36 ?_
      refine lv_bipush (v := (45 : Int32)) hx hb dX11_findMet_39 (by decide) ?_
      refine lv_iconst (v := (4 : Int32)) hx hb dX11_findMet_41 (by decide) ?_
      refine lv_iload_n hx hb dX11_findMet_42 rfl (lv_at hl 2 rfl) ?_
      refine lv_imul hx hb dX11_findMet_43 ?_
      refine lv_iadd hx hb dX11_findMet_44 ?_
      obtain ⟨z5, h⟩ := h
      refine g_ald ha hw 1 rfl z5 dX11_findMet_45 ?_
      refine lv_aload_n hx hb dX11_findMet_46 rfl (lv_at hl 0 rfl) ?_
      refine g_get (ci := 11) ha hw 0 1 rfl hi_X11_findMet_11 (by decide) (List.mem_of_getElem? (i := 2) rfl) rfl rfl dX11_findMet_47 ?_
      refine lv_bipush (v := (45 : Int32)) hx hb dX11_findMet_50 (by decide) ?_
      refine lv_iconst (v := (4 : Int32)) hx hb dX11_findMet_52 (by decide) ?_
      refine lv_iload_n hx hb dX11_findMet_53 rfl (lv_at hl 2 rfl) ?_
      refine lv_imul hx hb dX11_findMet_54 ?_
      refine lv_iadd hx hb dX11_findMet_55 ?_
      refine lv_iconst (v := (1 : Int32)) hx hb dX11_findMet_56 (by decide) ?_
      refine lv_iadd hx hb dX11_findMet_57 ?_
      obtain ⟨z6, h⟩ := h
      refine g_ald ha hw 1 rfl z6 dX11_findMet_58 ?_
      refine lv_iload_n hx hb dX11_findMet_59 rfl (lv_at hl 1 rfl) ?_
      refine g_cvi (rm := { frames := 3, cells := 0, slots := 0, locals := 242 }) (wn := (fun (u : Unit) => (w_X11_findMet cy a_this a_s a_met w_refusals w_image w_read w_tape w_told w_best w_kept w_squares w_far w_queue v_s v_isImage v_taped v_at v_met v_wrongHour v_wrongThing v_soonest v_bestSteps))) (As := [.int (v_s ((45 : Int32) + ((4 : Int32) * x2)).toNatClampNeg), .int (v_s (((45 : Int32) + ((4 : Int32) * x2)) + (1 : Int32)).toNatClampNeg), .int x1]) ha hw hl.1 (c_X11_comesTo (cy := cy)) (cwV 3 ha.2.2.2.2.1 gX11_findMet_X11_comesTo rfl rfl rfl hq_X11_comesTo ⟨Nat.le_of_ble_eq_true rfl, Nat.le_of_ble_eq_true rfl⟩) [0, 1] [2] [1, 2, 0] rfl rfl rfl rfl (by decide) rfl (fun _ => rfl) rfl rfl h rfl rfl (Nat.le_of_ble_eq_true rfl) dX11_findMet_60 ⟨Nat.le_refl _, Nat.le_refl _⟩ (fun r7 u H locs h hw => ?_)
      have hw : wd D A s.heap (w_X11_findMet cy a_this a_s a_met w_refusals w_image w_read w_tape w_told w_best w_kept w_squares w_far w_queue v_s v_isImage v_taped v_at v_met v_wrongHour v_wrongThing v_soonest v_bestSteps) H locs := hw
      obtain ⟨zr7, h⟩ := h
      try dsimp only at h
      refine lv_if_eq (tgt := 72) hx hb dX11_findMet_63 (by decide) (fun c8 => ?_) (fun c8 => ?_)
      · have h := h.1 c8
        refine lv_iconst (v := (0 : Int32)) hx hb dX11_findMet_72 (by decide) ?_
        refine lv_ior hx hb dX11_findMet_73 ?_
        refine g_ast (wn := (w_X11_findMet cy a_this a_s a_met w_refusals w_image w_read w_tape w_told w_best w_kept w_squares w_far w_queue v_s v_isImage v_taped v_at (upd v_met x1.toNatClampNeg ((v_met x1.toNatClampNeg) ||| (0 : Int32))) v_wrongHour v_wrongThing v_soonest v_bestSteps)) ha hw 2 rfl z4 rfl dX11_findMet_74 (fun H locs hw => ?_)
        refine lv_iinc (v := x2 + (1 : Int32)) (lv' := [(2, .int (x2 + (1 : Int32))), (0, .ref a_this), (1, .int x1)]) hx hb dX11_findMet_75 hl (k := 2) rfl rfl (by decide) rfl (fun ls hl => ?_)
        refine lv_goto (tgt := 17) hx hb dX11_findMet_78 (by decide) ?_
        exact ih _ _ _ _ _ _ h hw (lv_sub hl [1, 2, 0] rfl)
      · have h := h.2 c8
        refine lv_iconst (v := (1 : Int32)) hx hb dX11_findMet_66 (by decide) ?_
        refine lv_iload_n hx hb dX11_findMet_67 rfl (lv_at hl 2 rfl) ?_
        refine lv_ishl hx hb dX11_findMet_68 ?_
        refine lv_goto (tgt := 73) hx hb dX11_findMet_69 (by decide) ?_
        refine lv_ior hx hb dX11_findMet_73 ?_
        refine g_ast (wn := (w_X11_findMet cy a_this a_s a_met w_refusals w_image w_read w_tape w_told w_best w_kept w_squares w_far w_queue v_s v_isImage v_taped v_at (upd v_met x1.toNatClampNeg ((v_met x1.toNatClampNeg) ||| ((1 : Int32) <<< (x2 &&& 31)))) v_wrongHour v_wrongThing v_soonest v_bestSteps)) ha hw 2 rfl z4 rfl dX11_findMet_74 (fun H locs hw => ?_)
        refine lv_iinc (v := x2 + (1 : Int32)) (lv' := [(2, .int (x2 + (1 : Int32))), (0, .ref a_this), (1, .int x1)]) hx hb dX11_findMet_75 hl (k := 2) rfl rfl (by decide) rfl (fun ls hl => ?_)
        refine lv_goto (tgt := 17) hx hb dX11_findMet_78 (by decide) ?_
        exact ih _ _ _ _ _ _ h hw (lv_sub hl [1, 2, 0] rfl)
def wp_X11_findMet_2 (v_s : IA) (K : IA → Prop) : Nat → Int32 → IA → Prop
  | 0, _, _ => False
  | n + 1, x1, v_met => ((64 : Int32) ≤ x1 → K v_met) ∧ (¬ ((64 : Int32) ≤ x1) → vp_in x1 64 ∧ (∃ n11 : Nat, wp_X11_findMet_17 v_s (fun (x1_9 : Int32) (v_met_10 : IA) => wp_X11_findMet_2 v_s K n x1_9 v_met_10) K n11 x1 (0 : Int32) (upd v_met x1.toNatClampNeg (0 : Int32))))
set_option maxHeartbeats 4000000 in
set_option maxRecDepth 100000 in
theorem pl_X11_findMet_2 {p : Program} {l : Launch} {e : Env} {s : State} {m : MethodId} {args : Array Value} {below : List Frame} {meth : Method} {c : Code} {A : Nat → Prop} {Q : State → Prop} {D : va_G} {cy : ClassId} {a_this a_s a_met : Nat} {w_refusals w_image w_read w_tape w_told w_best w_kept w_squares w_far w_queue : Value} {v_s : IA} {v_isImage : Int32} {v_taped : Int32} {v_at : Int32} {v_wrongHour : Int32} {v_wrongThing : Int32} {v_soonest : Int32} {v_bestSteps : Int32} {K : IA → Prop} (ha : am p s m args c cX11_findMet 3 RX11 wsX11_findMet D cy A) (hr : rtV p l e { frames := 4, cells := 0, slots := 0, locals := 329 } s m args below meth c 0 0 Q cX11_findMet D A (fun (u : IA) => (w_X11_findMet cy a_this a_s a_met w_refusals w_image w_read w_tape w_told w_best w_kept w_squares w_far w_queue v_s v_isImage v_taped v_at u v_wrongHour v_wrongThing v_soonest v_bestSteps)) (fun (u : IA) => K u)) : ∀ (n : Nat) (x1 : Int32) (v_met : IA) (H : Heap) (locs : List Loc) (ls : Array Slot), wp_X11_findMet_2 v_s K n x1 v_met → wd D A s.heap (w_X11_findMet cy a_this a_s a_met w_refusals w_image w_read w_tape w_told w_best w_kept w_squares w_far w_queue v_s v_isImage v_taped v_at v_met v_wrongHour v_wrongThing v_soonest v_bestSteps) H locs → lv_has ls 3 [(0, .ref a_this), (1, .int x1)] → W p l e { frames := 4, cells := 0, slots := 0, locals := 329 } s m args below meth c H locs 0 0 Q (F0 m 2 ls []) := by
  have hx := ha.1
  have hb := ha.2.1
  intro n
  induction n with
  | zero => exact fun _ _ _ _ _ h _ _ => False.elim h
  | succ n ih =>
    intro x1 v_met H locs ls h hw hl
    have h : ((64 : Int32) ≤ x1 → K v_met) ∧ (¬ ((64 : Int32) ≤ x1) → vp_in x1 64 ∧ (∃ n11 : Nat, wp_X11_findMet_17 v_s (fun (x1_9 : Int32) (v_met_10 : IA) => wp_X11_findMet_2 v_s K n x1_9 v_met_10) K n11 x1 (0 : Int32) (upd v_met x1.toNatClampNeg (0 : Int32)))) := h
    refine lv_iload_n hx hb dX11_findMet_2 rfl (lv_at hl 1 rfl) ?_
    refine lv_bipush (v := (64 : Int32)) hx hb dX11_findMet_3 (by decide) ?_
    refine lv_icmp_ge (tgt := 87) hx hb dX11_findMet_5 (by decide) (fun c1 => ?_) (fun c1 => ?_)
    · have h := h.1 c1
      exact hr _ (v_met) _ _ _ dX11_findMet_87 h hw
    · have h := h.2 c1
      refine lv_aload_n hx hb dX11_findMet_8 rfl (lv_at hl 0 rfl) ?_
      refine g_get (ci := 11) ha hw 0 9 rfl hi_X11_findMet_11 (by decide) (List.mem_of_getElem? (i := 1) rfl) rfl rfl dX11_findMet_9 ?_
      refine lv_iload_n hx hb dX11_findMet_12 rfl (lv_at hl 1 rfl) ?_
      refine lv_iconst (v := (0 : Int32)) hx hb dX11_findMet_13 (by decide) ?_
      obtain ⟨z2, h⟩ := h
      refine g_ast (wn := (w_X11_findMet cy a_this a_s a_met w_refusals w_image w_read w_tape w_told w_best w_kept w_squares w_far w_queue v_s v_isImage v_taped v_at (upd v_met x1.toNatClampNeg (0 : Int32)) v_wrongHour v_wrongThing v_soonest v_bestSteps)) ha hw 2 rfl z2 rfl dX11_findMet_14 (fun H locs hw => ?_)
      refine lv_iconst (v := (0 : Int32)) hx hb dX11_findMet_15 (by decide) ?_
      refine lv_istore_n (lv' := [(2, .int (0 : Int32)), (0, .ref a_this), (1, .int x1)]) hx hb dX11_findMet_16 rfl hl (by decide) rfl (fun ls hl => ?_)
      obtain ⟨n9, h⟩ := h
      refine pl_X11_findMet_17 ha hr ?_ n9 _ _ _ _ _ _ h hw (lv_sub hl [1, 2, 0] rfl)
      · intro x1_9 v_met_10 H locs ls h hw hl
        try dsimp only at h
        exact ih _ _ _ _ _ h hw (lv_sub hl [0, 1] rfl)
def wp_X11_findMet (v_s : IA) (v_met : IA) (K : IA → Prop) : Prop := ∃ n12 : Nat, wp_X11_findMet_2 v_s K n12 (0 : Int32) v_met
set_option maxHeartbeats 4000000 in
set_option maxRecDepth 100000 in
theorem c_X11_findMet {l : Launch} {D : va_G} {cy : ClassId} {a_this a_s a_met : Nat} {w_refusals w_image w_read w_tape w_told w_best w_kept w_squares w_far w_queue : Value} {v_s : IA} {v_isImage : Int32} {v_taped : Int32} {v_at : Int32} {v_met : IA} {v_wrongHour : Int32} {v_wrongThing : Int32} {v_soonest : Int32} {v_bestSteps : Int32} {K : IA → Prop} : CtV l yX11_findMet wsX11_findMet { frames := 4, cells := 0, slots := 0, locals := 329 } 0 0 D cy [.ref a_this] (w_X11_findMet cy a_this a_s a_met w_refusals w_image w_read w_tape w_told w_best w_kept w_squares w_far w_queue v_s v_isImage v_taped v_at v_met v_wrongHour v_wrongThing v_soonest v_bestSteps) (wp_X11_findMet v_s v_met K) (fun (u : IA) => (w_X11_findMet cy a_this a_s a_met w_refusals w_image w_read w_tape w_told w_best w_kept w_squares w_far w_queue v_s v_isImage v_taped v_at u v_wrongHour v_wrongThing v_soonest v_bestSteps)) (fun (u : IA) => K u) := by
  refine CtV.mk (cc := cX11_findMet) (nL := 3) (by decide) rfl (Nat.le_of_ble_eq_true rfl) ?_
  intro p e s m args below meth c A Q ha hr _ h ls hl hw
  have ha : am p s m args c cX11_findMet 3 RX11 wsX11_findMet D cy A := ha
  have hx := ha.1
  have hb := ha.2.1
  have hl : lv_has ls 3 [(0, .ref a_this)] := hl
  have h : ∃ n12 : Nat, wp_X11_findMet_2 v_s K n12 (0 : Int32) v_met := h
  refine lv_iconst (v := (0 : Int32)) hx hb dX11_findMet_0 (by decide) ?_
  refine lv_istore_n (lv' := [(1, .int (0 : Int32)), (0, .ref a_this)]) hx hb dX11_findMet_1 rfl hl (by decide) rfl (fun ls hl => ?_)
  obtain ⟨n9, h⟩ := h
  refine pl_X11_findMet_2 ha hr n9 _ _ _ _ _ h hw (lv_sub hl [1, 0] rfl)
theorem hq_X11_needsAt : yX11_needsAt.cls = RX11 ∧ yX11_needsAt.cls ≠ "java/lang/invoke/MethodHandle" ∧ yX11_needsAt.cls ≠ "java/lang/invoke/VarHandle" ∧ (parseMethodDescriptor yX11_needsAt.desc).map (fun d => d.parameters.length) = some 1 := by decide +kernel
def w_X11_needsAt (cy : ClassId) (a_this a_s : Nat) (w_refusals w_image w_read w_tape w_told w_met w_best w_kept w_squares w_far w_queue : Value) (v_s : IA) (v_isImage : Int32) (v_taped : Int32) (v_at : Int32) (v_wrongHour : Int32) (v_wrongThing : Int32) (v_soonest : Int32) (v_bestSteps : Int32) : va_W := [(a_this, .inr (11, [w_refusals, .ref a_s, w_image, w_read, .int v_isImage, w_tape, w_told, .int v_taped, .int v_at, w_met, .int v_wrongHour, .int v_wrongThing, w_best, w_kept, .int v_soonest, .int v_bestSteps, w_squares, w_far, w_queue])), (a_s, .inl (cy, 120, .inl v_s))]
theorem hi_X11_needsAt_11 : ∀ w ∈ u_ws RX11 TX11 19, w ∈ wsX11_needsAt := fun _ h => List.mem_cons_of_mem _ (List.mem_append_right _ h)
def wp_X11_needsAt_4 (x1 : Int32) (v_s : IA) (K : Int32 → Prop) : Nat → Int32 → Int32 → Prop
  | 0, _, _ => False
  | n + 1, x2, x3 => ((v_s (2 : Int32).toNatClampNeg) ≤ x3 → K x2) ∧ (¬ ((v_s (2 : Int32).toNatClampNeg) ≤ x3) → vp_in (((45 : Int32) + ((4 : Int32) * x3)) + (2 : Int32)) 120 ∧ ((x1 < (v_s (((45 : Int32) + ((4 : Int32) * x3)) + (2 : Int32)).toNatClampNeg) → ∀ x2_4 : Int32, x2_4 = x2 ||| (0 : Int32) → wp_X11_needsAt_4 x1 v_s K n x2_4 (x3 + (1 : Int32))) ∧ (¬ (x1 < (v_s (((45 : Int32) + ((4 : Int32) * x3)) + (2 : Int32)).toNatClampNeg)) → vp_in (((45 : Int32) + ((4 : Int32) * x3)) + (3 : Int32)) 120 ∧ (((v_s (((45 : Int32) + ((4 : Int32) * x3)) + (3 : Int32)).toNatClampNeg) < x1 → ∀ x2_7 : Int32, x2_7 = x2 ||| (0 : Int32) → wp_X11_needsAt_4 x1 v_s K n x2_7 (x3 + (1 : Int32))) ∧ (¬ ((v_s (((45 : Int32) + ((4 : Int32) * x3)) + (3 : Int32)).toNatClampNeg) < x1) → ∀ x2_8 : Int32, x2_8 = x2 ||| ((1 : Int32) <<< (x3 &&& 31)) → wp_X11_needsAt_4 x1 v_s K n x2_8 (x3 + (1 : Int32)))))))
set_option maxHeartbeats 4000000 in
set_option maxRecDepth 100000 in
theorem pl_X11_needsAt_4 {p : Program} {l : Launch} {e : Env} {s : State} {m : MethodId} {args : Array Value} {below : List Frame} {meth : Method} {c : Code} {A : Nat → Prop} {Q : State → Prop} {D : va_G} {cy : ClassId} {a_this a_s : Nat} {w_refusals w_image w_read w_tape w_told w_met w_best w_kept w_squares w_far w_queue : Value} {v_s : IA} {v_isImage : Int32} {v_taped : Int32} {v_at : Int32} {v_wrongHour : Int32} {v_wrongThing : Int32} {v_soonest : Int32} {v_bestSteps : Int32} {x1 : Int32} {K : Int32 → Prop} (ha : am p s m args c cX11_needsAt 4 RX11 wsX11_needsAt D cy A) (hr : rtI p l e { frames := 1, cells := 0, slots := 0, locals := 64 } s m args below meth c 0 0 Q cX11_needsAt D A (fun (u : Unit) => (w_X11_needsAt cy a_this a_s w_refusals w_image w_read w_tape w_told w_met w_best w_kept w_squares w_far w_queue v_s v_isImage v_taped v_at v_wrongHour v_wrongThing v_soonest v_bestSteps)) (fun (r : Int32) (u : Unit) => K r)) : ∀ (n : Nat) (x2 : Int32) (x3 : Int32) (H : Heap) (locs : List Loc) (ls : Array Slot), wp_X11_needsAt_4 x1 v_s K n x2 x3 → wd D A s.heap (w_X11_needsAt cy a_this a_s w_refusals w_image w_read w_tape w_told w_met w_best w_kept w_squares w_far w_queue v_s v_isImage v_taped v_at v_wrongHour v_wrongThing v_soonest v_bestSteps) H locs → lv_has ls 4 [(0, .ref a_this), (1, .int x1), (2, .int x2), (3, .int x3)] → W p l e { frames := 1, cells := 0, slots := 0, locals := 64 } s m args below meth c H locs 0 0 Q (F0 m 4 ls []) := by
  have hx := ha.1
  have hb := ha.2.1
  intro n
  induction n with
  | zero => exact fun _ _ _ _ _ h _ _ => False.elim h
  | succ n ih =>
    intro x2 x3 H locs ls h hw hl
    have h : ((v_s (2 : Int32).toNatClampNeg) ≤ x3 → K x2) ∧ (¬ ((v_s (2 : Int32).toNatClampNeg) ≤ x3) → vp_in (((45 : Int32) + ((4 : Int32) * x3)) + (2 : Int32)) 120 ∧ ((x1 < (v_s (((45 : Int32) + ((4 : Int32) * x3)) + (2 : Int32)).toNatClampNeg) → ∀ x2_4 : Int32, x2_4 = x2 ||| (0 : Int32) → wp_X11_needsAt_4 x1 v_s K n x2_4 (x3 + (1 : Int32))) ∧ (¬ (x1 < (v_s (((45 : Int32) + ((4 : Int32) * x3)) + (2 : Int32)).toNatClampNeg)) → vp_in (((45 : Int32) + ((4 : Int32) * x3)) + (3 : Int32)) 120 ∧ (((v_s (((45 : Int32) + ((4 : Int32) * x3)) + (3 : Int32)).toNatClampNeg) < x1 → ∀ x2_7 : Int32, x2_7 = x2 ||| (0 : Int32) → wp_X11_needsAt_4 x1 v_s K n x2_7 (x3 + (1 : Int32))) ∧ (¬ ((v_s (((45 : Int32) + ((4 : Int32) * x3)) + (3 : Int32)).toNatClampNeg) < x1) → ∀ x2_8 : Int32, x2_8 = x2 ||| ((1 : Int32) <<< (x3 &&& 31)) → wp_X11_needsAt_4 x1 v_s K n x2_8 (x3 + (1 : Int32))))))) := h
    refine lv_iload_n hx hb dX11_needsAt_4 rfl (lv_at hl 3 rfl) ?_
    refine lv_aload_n hx hb dX11_needsAt_5 rfl (lv_at hl 0 rfl) ?_
    refine g_get (ci := 11) ha hw 0 1 rfl hi_X11_needsAt_11 (by decide) (List.mem_of_getElem? (i := 1) rfl) rfl rfl dX11_needsAt_6 ?_
    refine lv_iconst (v := (2 : Int32)) hx hb dX11_needsAt_9 (by decide) ?_
    refine g_ald ha hw 1 rfl (vp_in_iff.mpr (by decide)) dX11_needsAt_10 ?_
    refine lv_icmp_ge (tgt := 64) hx hb dX11_needsAt_11 (by decide) (fun c1 => ?_) (fun c1 => ?_)
    · have h := h.1 c1
      refine lv_iload_n hx hb dX11_needsAt_64 rfl (lv_at hl 2 rfl) ?_
      exact hr _ _ () _ _ _ dX11_needsAt_65 h hw
    · have h := h.2 c1
      refine lv_iload_n hx hb dX11_needsAt_14 rfl (lv_at hl 2 rfl) ?_
      refine lv_iload_n hx hb dX11_needsAt_15 rfl (lv_at hl 1 rfl) ?_
      refine lv_aload_n hx hb dX11_needsAt_16 rfl (lv_at hl 0 rfl) ?_
      refine g_get (ci := 11) ha hw 0 1 rfl hi_X11_needsAt_11 (by decide) (List.mem_of_getElem? (i := 1) rfl) rfl rfl dX11_needsAt_17 ?_
      refine lv_bipush (v := (45 : Int32)) hx hb dX11_needsAt_20 (by decide) ?_
      refine lv_iconst (v := (4 : Int32)) hx hb dX11_needsAt_22 (by decide) ?_
      refine lv_iload_n hx hb dX11_needsAt_23 rfl (lv_at hl 3 rfl) ?_
      refine lv_imul hx hb dX11_needsAt_24 ?_
      refine lv_iadd hx hb dX11_needsAt_25 ?_
      refine lv_iconst (v := (2 : Int32)) hx hb dX11_needsAt_26 (by decide) ?_
      refine lv_iadd hx hb dX11_needsAt_27 ?_
      obtain ⟨z2, h⟩ := h
      refine g_ald ha hw 1 rfl z2 dX11_needsAt_28 ?_
      refine lv_icmp_lt (tgt := 55) hx hb dX11_needsAt_29 (by decide) (fun c3 => ?_) (fun c3 => ?_)
      · have h := h.1 c3
        refine lv_iconst (v := (0 : Int32)) hx hb dX11_needsAt_55 (by decide) ?_
        refine lv_ior hx hb dX11_needsAt_56 ?_
        refine lv_topi (fun x2_4 ex2_4 => ?_)
        have h := h x2_4 ex2_4
        refine lv_istore_n (lv' := [(2, .int x2_4), (0, .ref a_this), (1, .int x1), (3, .int x3)]) hx hb dX11_needsAt_57 rfl hl (by decide) rfl (fun ls hl => ?_)
        refine lv_iinc (v := x3 + (1 : Int32)) (lv' := [(3, .int (x3 + (1 : Int32))), (2, .int x2_4), (0, .ref a_this), (1, .int x1)]) hx hb dX11_needsAt_58 hl (k := 3) rfl rfl (by decide) rfl (fun ls hl => ?_)
        refine lv_goto (tgt := 4) hx hb dX11_needsAt_61 (by decide) ?_
        exact ih _ _ _ _ _ h hw (lv_sub hl [2, 3, 1, 0] rfl)
      · have h := h.2 c3
        refine lv_iload_n hx hb dX11_needsAt_32 rfl (lv_at hl 1 rfl) ?_
        refine lv_aload_n hx hb dX11_needsAt_33 rfl (lv_at hl 0 rfl) ?_
        refine g_get (ci := 11) ha hw 0 1 rfl hi_X11_needsAt_11 (by decide) (List.mem_of_getElem? (i := 1) rfl) rfl rfl dX11_needsAt_34 ?_
        refine lv_bipush (v := (45 : Int32)) hx hb dX11_needsAt_37 (by decide) ?_
        refine lv_iconst (v := (4 : Int32)) hx hb dX11_needsAt_39 (by decide) ?_
        refine lv_iload_n hx hb dX11_needsAt_40 rfl (lv_at hl 3 rfl) ?_
        refine lv_imul hx hb dX11_needsAt_41 ?_
        refine lv_iadd hx hb dX11_needsAt_42 ?_
        refine lv_iconst (v := (3 : Int32)) hx hb dX11_needsAt_43 (by decide) ?_
        refine lv_iadd hx hb dX11_needsAt_44 ?_
        obtain ⟨z5, h⟩ := h
        refine g_ald ha hw 1 rfl z5 dX11_needsAt_45 ?_
        refine lv_icmp_gt (tgt := 55) hx hb dX11_needsAt_46 (by decide) (fun c6 => ?_) (fun c6 => ?_)
        · have h := h.1 c6
          refine lv_iconst (v := (0 : Int32)) hx hb dX11_needsAt_55 (by decide) ?_
          refine lv_ior hx hb dX11_needsAt_56 ?_
          refine lv_topi (fun x2_7 ex2_7 => ?_)
          have h := h x2_7 ex2_7
          refine lv_istore_n (lv' := [(2, .int x2_7), (0, .ref a_this), (1, .int x1), (3, .int x3)]) hx hb dX11_needsAt_57 rfl hl (by decide) rfl (fun ls hl => ?_)
          refine lv_iinc (v := x3 + (1 : Int32)) (lv' := [(3, .int (x3 + (1 : Int32))), (2, .int x2_7), (0, .ref a_this), (1, .int x1)]) hx hb dX11_needsAt_58 hl (k := 3) rfl rfl (by decide) rfl (fun ls hl => ?_)
          refine lv_goto (tgt := 4) hx hb dX11_needsAt_61 (by decide) ?_
          exact ih _ _ _ _ _ h hw (lv_sub hl [2, 3, 1, 0] rfl)
        · have h := h.2 c6
          refine lv_iconst (v := (1 : Int32)) hx hb dX11_needsAt_49 (by decide) ?_
          refine lv_iload_n hx hb dX11_needsAt_50 rfl (lv_at hl 3 rfl) ?_
          refine lv_ishl hx hb dX11_needsAt_51 ?_
          refine lv_goto (tgt := 56) hx hb dX11_needsAt_52 (by decide) ?_
          refine lv_ior hx hb dX11_needsAt_56 ?_
          refine lv_topi (fun x2_8 ex2_8 => ?_)
          have h := h x2_8 ex2_8
          refine lv_istore_n (lv' := [(2, .int x2_8), (0, .ref a_this), (1, .int x1), (3, .int x3)]) hx hb dX11_needsAt_57 rfl hl (by decide) rfl (fun ls hl => ?_)
          refine lv_iinc (v := x3 + (1 : Int32)) (lv' := [(3, .int (x3 + (1 : Int32))), (2, .int x2_8), (0, .ref a_this), (1, .int x1)]) hx hb dX11_needsAt_58 hl (k := 3) rfl rfl (by decide) rfl (fun ls hl => ?_)
          refine lv_goto (tgt := 4) hx hb dX11_needsAt_61 (by decide) ?_
          exact ih _ _ _ _ _ h hw (lv_sub hl [2, 3, 1, 0] rfl)
def wp_X11_needsAt (x1 : Int32) (v_s : IA) (K : Int32 → Prop) : Prop := ∃ n9 : Nat, wp_X11_needsAt_4 x1 v_s K n9 (0 : Int32) (0 : Int32)
set_option maxHeartbeats 4000000 in
set_option maxRecDepth 100000 in
theorem c_X11_needsAt {l : Launch} {D : va_G} {cy : ClassId} {a_this a_s : Nat} {w_refusals w_image w_read w_tape w_told w_met w_best w_kept w_squares w_far w_queue : Value} {v_s : IA} {v_isImage : Int32} {v_taped : Int32} {v_at : Int32} {v_wrongHour : Int32} {v_wrongThing : Int32} {v_soonest : Int32} {v_bestSteps : Int32} {x1 : Int32} {K : Int32 → Prop} : CtI l yX11_needsAt wsX11_needsAt { frames := 1, cells := 0, slots := 0, locals := 64 } 0 0 D cy [.ref a_this, .int x1] (w_X11_needsAt cy a_this a_s w_refusals w_image w_read w_tape w_told w_met w_best w_kept w_squares w_far w_queue v_s v_isImage v_taped v_at v_wrongHour v_wrongThing v_soonest v_bestSteps) (wp_X11_needsAt x1 v_s K) (fun (u : Unit) => (w_X11_needsAt cy a_this a_s w_refusals w_image w_read w_tape w_told w_met w_best w_kept w_squares w_far w_queue v_s v_isImage v_taped v_at v_wrongHour v_wrongThing v_soonest v_bestSteps)) (fun (r : Int32) (u : Unit) => K r) := by
  refine CtI.mk (cc := cX11_needsAt) (nL := 4) (ty := .int) (by decide) rfl (Nat.le_of_ble_eq_true rfl) (fun r u h => rfl) ?_
  intro p e s m args below meth c A Q ha hr _ h ls hl hw
  have ha : am p s m args c cX11_needsAt 4 RX11 wsX11_needsAt D cy A := ha
  have hx := ha.1
  have hb := ha.2.1
  have hl : lv_has ls 4 [(0, .ref a_this), (1, .int x1)] := hl
  have h : ∃ n9 : Nat, wp_X11_needsAt_4 x1 v_s K n9 (0 : Int32) (0 : Int32) := h
  refine lv_iconst (v := (0 : Int32)) hx hb dX11_needsAt_0 (by decide) ?_
  refine lv_istore_n (lv' := [(2, .int (0 : Int32)), (0, .ref a_this), (1, .int x1)]) hx hb dX11_needsAt_1 rfl hl (by decide) rfl (fun ls hl => ?_)
  refine lv_iconst (v := (0 : Int32)) hx hb dX11_needsAt_2 (by decide) ?_
  refine lv_istore_n (lv' := [(3, .int (0 : Int32)), (2, .int (0 : Int32)), (0, .ref a_this), (1, .int x1)]) hx hb dX11_needsAt_3 rfl hl (by decide) rfl (fun ls hl => ?_)
  obtain ⟨n9, h⟩ := h
  refine pl_X11_needsAt_4 ha hr n9 _ _ _ _ _ h hw (lv_sub hl [2, 3, 1, 0] rfl)
theorem hq_X11_failsAt : yX11_failsAt.cls = RX11 ∧ yX11_failsAt.cls ≠ "java/lang/invoke/MethodHandle" ∧ yX11_failsAt.cls ≠ "java/lang/invoke/VarHandle" ∧ (parseMethodDescriptor yX11_failsAt.desc).map (fun d => d.parameters.length) = some 3 := by decide +kernel
def w_X11_failsAt (cy : ClassId) (a_this a_s a_met : Nat) (w_refusals w_image w_read w_tape w_told w_best w_kept w_squares w_far w_queue : Value) (v_s : IA) (v_isImage : Int32) (v_taped : Int32) (v_at : Int32) (v_met : IA) (v_wrongHour : Int32) (v_wrongThing : Int32) (v_soonest : Int32) (v_bestSteps : Int32) : va_W := [(a_this, .inr (11, [w_refusals, .ref a_s, w_image, w_read, .int v_isImage, w_tape, w_told, .int v_taped, .int v_at, .ref a_met, .int v_wrongHour, .int v_wrongThing, w_best, w_kept, .int v_soonest, .int v_bestSteps, w_squares, w_far, w_queue])), (a_s, .inl (cy, 120, .inl v_s)), (a_met, .inl (cy, 64, .inl v_met))]
theorem hi_X11_failsAt_11 : ∀ w ∈ u_ws RX11 TX11 19, w ∈ wsX11_failsAt := fun _ h => List.mem_cons_of_mem _ (List.mem_append_right _ h)
def wp_X11_failsAt_3 (x1 : Int32) (x3 : Int32) (v_s : IA) (v_met : IA) (K : Int32 → Prop) : Nat → Int32 → Prop
  | 0, _ => False
  | n + 1, x4 => ((99 : Int32) < x4 → K (-9 : Int32)) ∧ (¬ ((99 : Int32) < x4) → (x3 < x4 → K (-9 : Int32)) ∧ (¬ (x3 < x4) → wp_X11_needsAt x4 v_s (fun (r3 : Int32) => wp_X11_openAt x4 x1 v_s (fun (r4 : Int32) => vp_in r4 64 ∧ (((r3 &&& ((v_met r4.toNatClampNeg) ^^^ (-1 : Int32))) = 0 → wp_X11_failsAt_3 x1 x3 v_s v_met K n (x4 + (1 : Int32))) ∧ (¬ ((r3 &&& ((v_met r4.toNatClampNeg) ^^^ (-1 : Int32))) = 0) → K x4))))))
set_option maxHeartbeats 4000000 in
set_option maxRecDepth 100000 in
theorem pl_X11_failsAt_3 {p : Program} {l : Launch} {e : Env} {s : State} {m : MethodId} {args : Array Value} {below : List Frame} {meth : Method} {c : Code} {A : Nat → Prop} {Q : State → Prop} {D : va_G} {cy : ClassId} {a_this a_s a_met : Nat} {w_refusals w_image w_read w_tape w_told w_best w_kept w_squares w_far w_queue : Value} {v_s : IA} {v_isImage : Int32} {v_taped : Int32} {v_at : Int32} {v_met : IA} {v_wrongHour : Int32} {v_wrongThing : Int32} {v_soonest : Int32} {v_bestSteps : Int32} {x1 : Int32} {x3 : Int32} {K : Int32 → Prop} (ha : am p s m args c cX11_failsAt 5 RX11 wsX11_failsAt D cy A) (hr : rtI p l e { frames := 4, cells := 0, slots := 0, locals := 324 } s m args below meth c 0 0 Q cX11_failsAt D A (fun (u : Unit) => (w_X11_failsAt cy a_this a_s a_met w_refusals w_image w_read w_tape w_told w_best w_kept w_squares w_far w_queue v_s v_isImage v_taped v_at v_met v_wrongHour v_wrongThing v_soonest v_bestSteps)) (fun (r : Int32) (u : Unit) => K r)) : ∀ (n : Nat) (x4 : Int32) (H : Heap) (locs : List Loc) (ls : Array Slot), wp_X11_failsAt_3 x1 x3 v_s v_met K n x4 → wd D A s.heap (w_X11_failsAt cy a_this a_s a_met w_refusals w_image w_read w_tape w_told w_best w_kept w_squares w_far w_queue v_s v_isImage v_taped v_at v_met v_wrongHour v_wrongThing v_soonest v_bestSteps) H locs → lv_has ls 5 [(0, .ref a_this), (1, .int x1), (3, .int x3), (4, .int x4)] → W p l e { frames := 4, cells := 0, slots := 0, locals := 324 } s m args below meth c H locs 0 0 Q (F0 m 3 ls []) := by
  have hx := ha.1
  have hb := ha.2.1
  intro n
  induction n with
  | zero => exact fun _ _ _ _ h _ _ => False.elim h
  | succ n ih =>
    intro x4 H locs ls h hw hl
    have h : ((99 : Int32) < x4 → K (-9 : Int32)) ∧ (¬ ((99 : Int32) < x4) → (x3 < x4 → K (-9 : Int32)) ∧ (¬ (x3 < x4) → wp_X11_needsAt x4 v_s (fun (r3 : Int32) => wp_X11_openAt x4 x1 v_s (fun (r4 : Int32) => vp_in r4 64 ∧ (((r3 &&& ((v_met r4.toNatClampNeg) ^^^ (-1 : Int32))) = 0 → wp_X11_failsAt_3 x1 x3 v_s v_met K n (x4 + (1 : Int32))) ∧ (¬ ((r3 &&& ((v_met r4.toNatClampNeg) ^^^ (-1 : Int32))) = 0) → K x4)))))) := h
    refine lv_iload hx hb dX11_failsAt_3 (lv_at hl 3 rfl) ?_
    refine lv_bipush (v := (99 : Int32)) hx hb dX11_failsAt_5 (by decide) ?_
    refine lv_icmp_gt (tgt := 49) hx hb dX11_failsAt_7 (by decide) (fun c1 => ?_) (fun c1 => ?_)
    · have h := h.1 c1
      refine lv_bipush (v := (-9 : Int32)) hx hb dX11_failsAt_49 (by decide) ?_
      exact hr _ _ () _ _ _ dX11_failsAt_51 h hw
    · have h := h.2 c1
      refine lv_iload hx hb dX11_failsAt_10 (lv_at hl 3 rfl) ?_
      refine lv_iload_n hx hb dX11_failsAt_12 rfl (lv_at hl 2 rfl) ?_
      refine lv_icmp_gt (tgt := 49) hx hb dX11_failsAt_13 (by decide) (fun c2 => ?_) (fun c2 => ?_)
      · have h := h.1 c2
        refine lv_bipush (v := (-9 : Int32)) hx hb dX11_failsAt_49 (by decide) ?_
        exact hr _ _ () _ _ _ dX11_failsAt_51 h hw
      · have h := h.2 c2
        refine lv_aload_n hx hb dX11_failsAt_16 rfl (lv_at hl 0 rfl) ?_
        refine lv_iload hx hb dX11_failsAt_17 (lv_at hl 3 rfl) ?_
        refine g_cvi (rm := { frames := 1, cells := 0, slots := 0, locals := 64 }) (wn := (fun (u : Unit) => (w_X11_failsAt cy a_this a_s a_met w_refusals w_image w_read w_tape w_told w_best w_kept w_squares w_far w_queue v_s v_isImage v_taped v_at v_met v_wrongHour v_wrongThing v_soonest v_bestSteps))) (As := [.int x4]) ha hw hl.1 (c_X11_needsAt (cy := cy)) (cwV 1 ha.2.2.2.2.1 gX11_failsAt_X11_needsAt rfl rfl rfl hq_X11_needsAt ⟨Nat.le_of_ble_eq_true rfl, Nat.le_of_ble_eq_true rfl⟩) [0, 1] [2] [1, 2, 0] rfl rfl rfl rfl (by decide) rfl (fun _ => rfl) rfl rfl h rfl rfl (Nat.le_of_ble_eq_true rfl) dX11_failsAt_19 ⟨Nat.le_refl _, Nat.le_refl _⟩ (fun r3 u H locs h hw => ?_)
        have hw : wd D A s.heap (w_X11_failsAt cy a_this a_s a_met w_refusals w_image w_read w_tape w_told w_best w_kept w_squares w_far w_queue v_s v_isImage v_taped v_at v_met v_wrongHour v_wrongThing v_soonest v_bestSteps) H locs := hw
        try dsimp only at h
        refine lv_aload_n hx hb dX11_failsAt_22 rfl (lv_at hl 0 rfl) ?_
        refine g_get (ci := 11) ha hw 0 9 rfl hi_X11_failsAt_11 (by decide) (List.mem_of_getElem? (i := 1) rfl) rfl rfl dX11_failsAt_23 ?_
        refine lv_aload_n hx hb dX11_failsAt_26 rfl (lv_at hl 0 rfl) ?_
        refine lv_iload hx hb dX11_failsAt_27 (lv_at hl 3 rfl) ?_
        refine lv_iload_n hx hb dX11_failsAt_29 rfl (lv_at hl 1 rfl) ?_
        refine g_cvi (rm := { frames := 3, cells := 0, slots := 0, locals := 234 }) (wn := (fun (u : Unit) => (w_X11_failsAt cy a_this a_s a_met w_refusals w_image w_read w_tape w_told w_best w_kept w_squares w_far w_queue v_s v_isImage v_taped v_at v_met v_wrongHour v_wrongThing v_soonest v_bestSteps))) (As := [.int x4, .int x1]) ha hw hl.1 (c_X11_openAt (cy := cy)) (cwV 2 ha.2.2.2.2.1 gX11_failsAt_X11_openAt rfl rfl rfl hq_X11_openAt ⟨Nat.le_of_ble_eq_true rfl, Nat.le_of_ble_eq_true rfl⟩) [0, 1] [2] [1, 2, 0] rfl rfl rfl rfl (by decide) rfl (fun _ => rfl) rfl rfl h rfl rfl (Nat.le_of_ble_eq_true rfl) dX11_failsAt_30 ⟨Nat.le_refl _, Nat.le_refl _⟩ (fun r4 u H locs h hw => ?_)
        have hw : wd D A s.heap (w_X11_failsAt cy a_this a_s a_met w_refusals w_image w_read w_tape w_told w_best w_kept w_squares w_far w_queue v_s v_isImage v_taped v_at v_met v_wrongHour v_wrongThing v_soonest v_bestSteps) H locs := hw
        try dsimp only at h
        obtain ⟨z5, h⟩ := h
        refine g_ald ha hw 2 rfl z5 dX11_failsAt_33 ?_
        refine lv_iconst (v := (-1 : Int32)) hx hb dX11_failsAt_34 (by decide) ?_
        refine lv_ixor hx hb dX11_failsAt_35 ?_
        refine lv_iand hx hb dX11_failsAt_36 ?_
        refine lv_if_eq (tgt := 43) hx hb dX11_failsAt_37 (by decide) (fun c6 => ?_) (fun c6 => ?_)
        · have h := h.1 c6
          refine lv_iinc (v := x4 + (1 : Int32)) (lv' := [(4, .int (x4 + (1 : Int32))), (0, .ref a_this), (1, .int x1), (3, .int x3)]) hx hb dX11_failsAt_43 hl (k := 3) rfl rfl (by decide) rfl (fun ls hl => ?_)
          refine lv_goto (tgt := 3) hx hb dX11_failsAt_46 (by decide) ?_
          exact ih _ _ _ _ h hw (lv_sub hl [1, 2, 3, 0] rfl)
        · have h := h.2 c6
          refine lv_iload hx hb dX11_failsAt_40 (lv_at hl 3 rfl) ?_
          exact hr _ _ () _ _ _ dX11_failsAt_42 h hw
def wp_X11_failsAt (x1 : Int32) (x2 : Int32) (x3 : Int32) (v_s : IA) (v_met : IA) (K : Int32 → Prop) : Prop := ∃ n7 : Nat, wp_X11_failsAt_3 x1 x3 v_s v_met K n7 x2
set_option maxHeartbeats 4000000 in
set_option maxRecDepth 100000 in
theorem c_X11_failsAt {l : Launch} {D : va_G} {cy : ClassId} {a_this a_s a_met : Nat} {w_refusals w_image w_read w_tape w_told w_best w_kept w_squares w_far w_queue : Value} {v_s : IA} {v_isImage : Int32} {v_taped : Int32} {v_at : Int32} {v_met : IA} {v_wrongHour : Int32} {v_wrongThing : Int32} {v_soonest : Int32} {v_bestSteps : Int32} {x1 : Int32} {x2 : Int32} {x3 : Int32} {K : Int32 → Prop} : CtI l yX11_failsAt wsX11_failsAt { frames := 4, cells := 0, slots := 0, locals := 324 } 0 0 D cy [.ref a_this, .int x1, .int x2, .int x3] (w_X11_failsAt cy a_this a_s a_met w_refusals w_image w_read w_tape w_told w_best w_kept w_squares w_far w_queue v_s v_isImage v_taped v_at v_met v_wrongHour v_wrongThing v_soonest v_bestSteps) (wp_X11_failsAt x1 x2 x3 v_s v_met K) (fun (u : Unit) => (w_X11_failsAt cy a_this a_s a_met w_refusals w_image w_read w_tape w_told w_best w_kept w_squares w_far w_queue v_s v_isImage v_taped v_at v_met v_wrongHour v_wrongThing v_soonest v_bestSteps)) (fun (r : Int32) (u : Unit) => K r) := by
  refine CtI.mk (cc := cX11_failsAt) (nL := 5) (ty := .int) (by decide) rfl (Nat.le_of_ble_eq_true rfl) (fun r u h => rfl) ?_
  intro p e s m args below meth c A Q ha hr _ h ls hl hw
  have ha : am p s m args c cX11_failsAt 5 RX11 wsX11_failsAt D cy A := ha
  have hx := ha.1
  have hb := ha.2.1
  have hl : lv_has ls 5 [(0, .ref a_this), (1, .int x1), (2, .int x2), (3, .int x3)] := hl
  have h : ∃ n7 : Nat, wp_X11_failsAt_3 x1 x3 v_s v_met K n7 x2 := h
  refine lv_iload_n hx hb dX11_failsAt_0 rfl (lv_at hl 2 rfl) ?_
  refine lv_istore (lv' := [(4, .int x2), (0, .ref a_this), (1, .int x1), (2, .int x2), (3, .int x3)]) hx hb dX11_failsAt_1 hl (by decide) rfl (fun ls hl => ?_)
  obtain ⟨n9, h⟩ := h
  refine pl_X11_failsAt_3 ha hr n9 _ _ _ _ h hw (lv_sub hl [1, 2, 4, 0] rfl)
theorem hq_X11_notes : yX11_notes.cls = RX11 ∧ yX11_notes.cls ≠ "java/lang/invoke/MethodHandle" ∧ yX11_notes.cls ≠ "java/lang/invoke/VarHandle" ∧ (parseMethodDescriptor yX11_notes.desc).map (fun d => d.parameters.length) = some 2 := by decide +kernel
def w_X11_notes (cy : ClassId) (a_this : Nat) (w_refusals w_s w_image w_read w_tape w_told w_met w_best w_kept w_squares w_far w_queue : Value) (v_isImage : Int32) (v_taped : Int32) (v_at : Int32) (v_wrongHour : Int32) (v_wrongThing : Int32) (v_soonest : Int32) (v_bestSteps : Int32) : va_W := [(a_this, .inr (11, [w_refusals, w_s, w_image, w_read, .int v_isImage, w_tape, w_told, .int v_taped, .int v_at, w_met, .int v_wrongHour, .int v_wrongThing, w_best, w_kept, .int v_soonest, .int v_bestSteps, w_squares, w_far, w_queue]))]
theorem hi_X11_notes_11 : ∀ w ∈ u_ws RX11 TX11 19, w ∈ wsX11_notes := fun _ h => List.mem_cons_of_mem _ (List.mem_append_right _ h)
def wp_X11_notes (x1 : Int32) (x2 : Int32) (v_wrongHour : Int32) (v_wrongThing : Int32) (K : Int32 → Int32 → Prop) : Prop := (v_wrongHour < 0 → K x1 x2) ∧ (¬ (v_wrongHour < 0) → (v_wrongHour < x1 → K v_wrongHour v_wrongThing) ∧ (¬ (v_wrongHour < x1) → (x1 = v_wrongHour → (x2 < v_wrongThing → K x1 x2) ∧ (¬ (x2 < v_wrongThing) → K v_wrongHour v_wrongThing)) ∧ (¬ (x1 = v_wrongHour) → K x1 x2)))
set_option maxHeartbeats 4000000 in
set_option maxRecDepth 100000 in
theorem c_X11_notes {l : Launch} {D : va_G} {cy : ClassId} {a_this : Nat} {w_refusals w_s w_image w_read w_tape w_told w_met w_best w_kept w_squares w_far w_queue : Value} {v_isImage : Int32} {v_taped : Int32} {v_at : Int32} {v_wrongHour : Int32} {v_wrongThing : Int32} {v_soonest : Int32} {v_bestSteps : Int32} {x1 : Int32} {x2 : Int32} {K : Int32 → Int32 → Prop} : CtV l yX11_notes wsX11_notes { frames := 1, cells := 0, slots := 0, locals := 64 } 0 0 D cy [.ref a_this, .int x1, .int x2] (w_X11_notes cy a_this w_refusals w_s w_image w_read w_tape w_told w_met w_best w_kept w_squares w_far w_queue v_isImage v_taped v_at v_wrongHour v_wrongThing v_soonest v_bestSteps) (wp_X11_notes x1 x2 v_wrongHour v_wrongThing K) (fun (u : Int32 × Int32) => (w_X11_notes cy a_this w_refusals w_s w_image w_read w_tape w_told w_met w_best w_kept w_squares w_far w_queue v_isImage v_taped v_at u.1 u.2 v_soonest v_bestSteps)) (fun (u : Int32 × Int32) => K u.1 u.2) := by
  refine CtV.mk (cc := cX11_notes) (nL := 3) (by decide) rfl (Nat.le_of_ble_eq_true rfl) ?_
  intro p e s m args below meth c A Q ha hr _ h ls hl hw
  have ha : am p s m args c cX11_notes 3 RX11 wsX11_notes D cy A := ha
  have hx := ha.1
  have hb := ha.2.1
  have hl : lv_has ls 3 [(0, .ref a_this), (1, .int x1), (2, .int x2)] := hl
  have h : (v_wrongHour < 0 → K x1 x2) ∧ (¬ (v_wrongHour < 0) → (v_wrongHour < x1 → K v_wrongHour v_wrongThing) ∧ (¬ (v_wrongHour < x1) → (x1 = v_wrongHour → (x2 < v_wrongThing → K x1 x2) ∧ (¬ (x2 < v_wrongThing) → K v_wrongHour v_wrongThing)) ∧ (¬ (x1 = v_wrongHour) → K x1 x2))) := h
  refine lv_aload_n hx hb dX11_notes_0 rfl (lv_at hl 0 rfl) ?_
  refine g_get (ci := 11) ha hw 0 10 rfl hi_X11_notes_11 (by decide) (List.mem_of_getElem? (i := 1) rfl) rfl rfl dX11_notes_1 ?_
  refine lv_if_lt (tgt := 32) hx hb dX11_notes_4 (by decide) (fun c1 => ?_) (fun c1 => ?_)
  · have h := h.1 c1
    refine lv_aload_n hx hb dX11_notes_32 rfl (lv_at hl 0 rfl) ?_
    refine lv_iload_n hx hb dX11_notes_33 rfl (lv_at hl 1 rfl) ?_
    refine g_put (ci := 11) (wn := (w_X11_notes cy a_this w_refusals w_s w_image w_read w_tape w_told w_met w_best w_kept w_squares w_far w_queue v_isImage v_taped v_at x1 v_wrongThing v_soonest v_bestSteps)) ha hw 0 10 rfl hi_X11_notes_11 tyX11_ok nmX11 (by decide) (List.mem_of_getElem? (i := 1) rfl) rfl rfl rfl rfl (Nat.le_of_ble_eq_true rfl) rfl dX11_notes_34 (fun H locs hw => ?_)
    refine lv_aload_n hx hb dX11_notes_37 rfl (lv_at hl 0 rfl) ?_
    refine lv_iload_n hx hb dX11_notes_38 rfl (lv_at hl 2 rfl) ?_
    refine g_put (ci := 11) (wn := (w_X11_notes cy a_this w_refusals w_s w_image w_read w_tape w_told w_met w_best w_kept w_squares w_far w_queue v_isImage v_taped v_at x1 x2 v_soonest v_bestSteps)) ha hw 0 11 rfl hi_X11_notes_11 tyX11_ok nmX11 (by decide) (List.mem_of_getElem? (i := 2) rfl) rfl rfl rfl rfl (Nat.le_of_ble_eq_true rfl) rfl dX11_notes_39 (fun H locs hw => ?_)
    exact hr _ (x1, x2) _ _ _ dX11_notes_42 h hw
  · have h := h.2 c1
    refine lv_iload_n hx hb dX11_notes_7 rfl (lv_at hl 1 rfl) ?_
    refine lv_aload_n hx hb dX11_notes_8 rfl (lv_at hl 0 rfl) ?_
    refine g_get (ci := 11) ha hw 0 10 rfl hi_X11_notes_11 (by decide) (List.mem_of_getElem? (i := 1) rfl) rfl rfl dX11_notes_9 ?_
    refine lv_icmp_gt (tgt := 31) hx hb dX11_notes_12 (by decide) (fun c2 => ?_) (fun c2 => ?_)
    · have h := h.1 c2
      exact hr _ (v_wrongHour, v_wrongThing) _ _ _ dX11_notes_31 h hw
    · have h := h.2 c2
      refine lv_iload_n hx hb dX11_notes_15 rfl (lv_at hl 1 rfl) ?_
      refine lv_aload_n hx hb dX11_notes_16 rfl (lv_at hl 0 rfl) ?_
      refine g_get (ci := 11) ha hw 0 10 rfl hi_X11_notes_11 (by decide) (List.mem_of_getElem? (i := 1) rfl) rfl rfl dX11_notes_17 ?_
      refine lv_icmp_ne (tgt := 32) hx hb dX11_notes_20 (by decide) (fun c3 => ?_) (fun c3 => ?_)
      · have h := h.2 c3
        refine lv_aload_n hx hb dX11_notes_32 rfl (lv_at hl 0 rfl) ?_
        refine lv_iload_n hx hb dX11_notes_33 rfl (lv_at hl 1 rfl) ?_
        refine g_put (ci := 11) (wn := (w_X11_notes cy a_this w_refusals w_s w_image w_read w_tape w_told w_met w_best w_kept w_squares w_far w_queue v_isImage v_taped v_at x1 v_wrongThing v_soonest v_bestSteps)) ha hw 0 10 rfl hi_X11_notes_11 tyX11_ok nmX11 (by decide) (List.mem_of_getElem? (i := 1) rfl) rfl rfl rfl rfl (Nat.le_of_ble_eq_true rfl) rfl dX11_notes_34 (fun H locs hw => ?_)
        refine lv_aload_n hx hb dX11_notes_37 rfl (lv_at hl 0 rfl) ?_
        refine lv_iload_n hx hb dX11_notes_38 rfl (lv_at hl 2 rfl) ?_
        refine g_put (ci := 11) (wn := (w_X11_notes cy a_this w_refusals w_s w_image w_read w_tape w_told w_met w_best w_kept w_squares w_far w_queue v_isImage v_taped v_at x1 x2 v_soonest v_bestSteps)) ha hw 0 11 rfl hi_X11_notes_11 tyX11_ok nmX11 (by decide) (List.mem_of_getElem? (i := 2) rfl) rfl rfl rfl rfl (Nat.le_of_ble_eq_true rfl) rfl dX11_notes_39 (fun H locs hw => ?_)
        exact hr _ (x1, x2) _ _ _ dX11_notes_42 h hw
      · have h := h.1 c3
        refine lv_iload_n hx hb dX11_notes_23 rfl (lv_at hl 2 rfl) ?_
        refine lv_aload_n hx hb dX11_notes_24 rfl (lv_at hl 0 rfl) ?_
        refine g_get (ci := 11) ha hw 0 11 rfl hi_X11_notes_11 (by decide) (List.mem_of_getElem? (i := 2) rfl) rfl rfl dX11_notes_25 ?_
        refine lv_icmp_lt (tgt := 32) hx hb dX11_notes_28 (by decide) (fun c4 => ?_) (fun c4 => ?_)
        · have h := h.1 c4
          refine lv_aload_n hx hb dX11_notes_32 rfl (lv_at hl 0 rfl) ?_
          refine lv_iload_n hx hb dX11_notes_33 rfl (lv_at hl 1 rfl) ?_
          refine g_put (ci := 11) (wn := (w_X11_notes cy a_this w_refusals w_s w_image w_read w_tape w_told w_met w_best w_kept w_squares w_far w_queue v_isImage v_taped v_at x1 v_wrongThing v_soonest v_bestSteps)) ha hw 0 10 rfl hi_X11_notes_11 tyX11_ok nmX11 (by decide) (List.mem_of_getElem? (i := 1) rfl) rfl rfl rfl rfl (Nat.le_of_ble_eq_true rfl) rfl dX11_notes_34 (fun H locs hw => ?_)
          refine lv_aload_n hx hb dX11_notes_37 rfl (lv_at hl 0 rfl) ?_
          refine lv_iload_n hx hb dX11_notes_38 rfl (lv_at hl 2 rfl) ?_
          refine g_put (ci := 11) (wn := (w_X11_notes cy a_this w_refusals w_s w_image w_read w_tape w_told w_met w_best w_kept w_squares w_far w_queue v_isImage v_taped v_at x1 x2 v_soonest v_bestSteps)) ha hw 0 11 rfl hi_X11_notes_11 tyX11_ok nmX11 (by decide) (List.mem_of_getElem? (i := 2) rfl) rfl rfl rfl rfl (Nat.le_of_ble_eq_true rfl) rfl dX11_notes_39 (fun H locs hw => ?_)
          exact hr _ (x1, x2) _ _ _ dX11_notes_42 h hw
        · have h := h.2 c4
          exact hr _ (v_wrongHour, v_wrongThing) _ _ _ dX11_notes_31 h hw
theorem hq_X11_judged : yX11_judged.cls = RX11 ∧ yX11_judged.cls ≠ "java/lang/invoke/MethodHandle" ∧ yX11_judged.cls ≠ "java/lang/invoke/VarHandle" ∧ (parseMethodDescriptor yX11_judged.desc).map (fun d => d.parameters.length) = some 1 := by decide +kernel
def w_X11_judged (cy : ClassId) (a_this a_refusals a_s a_met : Nat) (w_image w_read w_tape w_told w_best w_kept w_squares w_far w_queue : Value) (v_refusals : IA) (v_s : IA) (v_isImage : Int32) (v_taped : Int32) (v_at : Int32) (v_met : IA) (v_wrongHour : Int32) (v_wrongThing : Int32) (v_soonest : Int32) (v_bestSteps : Int32) : va_W := [(a_this, .inr (11, [.ref a_refusals, .ref a_s, w_image, w_read, .int v_isImage, w_tape, w_told, .int v_taped, .int v_at, .ref a_met, .int v_wrongHour, .int v_wrongThing, w_best, w_kept, .int v_soonest, .int v_bestSteps, w_squares, w_far, w_queue])), (a_refusals, .inl (cy, 7, .inl v_refusals)), (a_s, .inl (cy, 120, .inl v_s)), (a_met, .inl (cy, 64, .inl v_met))]
theorem hi_X11_judged_11 : ∀ w ∈ u_ws RX11 TX11 19, w ∈ wsX11_judged := fun _ h => List.mem_cons_of_mem _ (List.mem_append_right _ h)
def wp_X11_judged_44 (x3 : Int32) (v_s : IA) (E90 : Int32 → Int32 → Prop) (K : Int32 → IA → IA → Int32 → Int32 → Prop) : Nat → Int32 → Int32 → Int32 → Prop
  | 0, _, _, _ => False
  | n + 1, x4, v_wrongHour, v_wrongThing => ((8 : Int32) ≤ x4 → E90 v_wrongHour v_wrongThing) ∧ (¬ ((8 : Int32) ≤ x4) → (x4 = (2 : Int32) → wp_X11_judged_44 x3 v_s E90 K n (x4 + (1 : Int32)) v_wrongHour v_wrongThing) ∧ (¬ (x4 = (2 : Int32)) → (x4 = (3 : Int32) → wp_X11_judged_44 x3 v_s E90 K n (x4 + (1 : Int32)) v_wrongHour v_wrongThing) ∧ (¬ (x4 = (3 : Int32)) → wp_X11_isWrong x3 x4 v_s (fun (r8 : Int32) => (r8 = 0 → wp_X11_judged_44 x3 v_s E90 K n (x4 + (1 : Int32)) v_wrongHour v_wrongThing) ∧ (¬ (r8 = 0) → wp_X11_hourOf x3 v_s (fun (r10 : Int32) => wp_X11_notes r10 x4 v_wrongHour v_wrongThing (fun (v_wrongHour_11 : Int32) (v_wrongThing_12 : Int32) => wp_X11_judged_44 x3 v_s E90 K n (x4 + (1 : Int32)) v_wrongHour_11 v_wrongThing_12)))))))
set_option maxHeartbeats 4000000 in
set_option maxRecDepth 100000 in
theorem pl_X11_judged_44 {p : Program} {l : Launch} {e : Env} {s : State} {m : MethodId} {args : Array Value} {below : List Frame} {meth : Method} {c : Code} {A : Nat → Prop} {Q : State → Prop} {D : va_G} {cy : ClassId} {a_this a_refusals a_s a_met : Nat} {w_image w_read w_tape w_told w_best w_kept w_squares w_far w_queue : Value} {v_refusals : IA} {v_s : IA} {v_isImage : Int32} {v_taped : Int32} {v_at : Int32} {v_met : IA} {v_soonest : Int32} {v_bestSteps : Int32} {x3 : Int32} {x1 : Int32} {x2 : Int32} {K : Int32 → IA → IA → Int32 → Int32 → Prop} {E90 : Int32 → Int32 → Prop} (ha : am p s m args c cX11_judged 5 RX11 wsX11_judged D cy A) (hr : rtI p l e { frames := 7, cells := 0, slots := 0, locals := 582 } s m args below meth c 0 0 Q cX11_judged D A (fun (u : IA × IA × Int32 × Int32) => (w_X11_judged cy a_this a_refusals a_s a_met w_image w_read w_tape w_told w_best w_kept w_squares w_far w_queue u.1 v_s v_isImage v_taped v_at u.2.1 u.2.2.1 u.2.2.2 v_soonest v_bestSteps)) (fun (r : Int32) (u : IA × IA × Int32 × Int32) => K r u.1 u.2.1 u.2.2.1 u.2.2.2)) (hE90 : ∀ (v_wrongHour' : Int32) (v_wrongThing' : Int32) (H : Heap) (locs : List Loc) (ls : Array Slot), E90 v_wrongHour' v_wrongThing' → wd D A s.heap (w_X11_judged cy a_this a_refusals a_s a_met w_image w_read w_tape w_told w_best w_kept w_squares w_far w_queue v_refusals v_s v_isImage v_taped v_at v_met v_wrongHour' v_wrongThing' v_soonest v_bestSteps) H locs → lv_has ls 5 [(0, .ref a_this), (1, .int x1), (2, .int x2), (3, .int x3)] → W p l e { frames := 7, cells := 0, slots := 0, locals := 582 } s m args below meth c H locs 0 0 Q (F0 m 90 ls [])) : ∀ (n : Nat) (x4 : Int32) (v_wrongHour : Int32) (v_wrongThing : Int32) (H : Heap) (locs : List Loc) (ls : Array Slot), wp_X11_judged_44 x3 v_s E90 K n x4 v_wrongHour v_wrongThing → wd D A s.heap (w_X11_judged cy a_this a_refusals a_s a_met w_image w_read w_tape w_told w_best w_kept w_squares w_far w_queue v_refusals v_s v_isImage v_taped v_at v_met v_wrongHour v_wrongThing v_soonest v_bestSteps) H locs → lv_has ls 5 [(0, .ref a_this), (1, .int x1), (2, .int x2), (3, .int x3), (4, .int x4)] → W p l e { frames := 7, cells := 0, slots := 0, locals := 582 } s m args below meth c H locs 0 0 Q (F0 m 44 ls []) := by
  have hx := ha.1
  have hb := ha.2.1
  intro n
  induction n with
  | zero => exact fun _ _ _ _ _ _ h _ _ => False.elim h
  | succ n ih =>
    intro x4 v_wrongHour v_wrongThing H locs ls h hw hl
    have h : ((8 : Int32) ≤ x4 → E90 v_wrongHour v_wrongThing) ∧ (¬ ((8 : Int32) ≤ x4) → (x4 = (2 : Int32) → wp_X11_judged_44 x3 v_s E90 K n (x4 + (1 : Int32)) v_wrongHour v_wrongThing) ∧ (¬ (x4 = (2 : Int32)) → (x4 = (3 : Int32) → wp_X11_judged_44 x3 v_s E90 K n (x4 + (1 : Int32)) v_wrongHour v_wrongThing) ∧ (¬ (x4 = (3 : Int32)) → wp_X11_isWrong x3 x4 v_s (fun (r8 : Int32) => (r8 = 0 → wp_X11_judged_44 x3 v_s E90 K n (x4 + (1 : Int32)) v_wrongHour v_wrongThing) ∧ (¬ (r8 = 0) → wp_X11_hourOf x3 v_s (fun (r10 : Int32) => wp_X11_notes r10 x4 v_wrongHour v_wrongThing (fun (v_wrongHour_11 : Int32) (v_wrongThing_12 : Int32) => wp_X11_judged_44 x3 v_s E90 K n (x4 + (1 : Int32)) v_wrongHour_11 v_wrongThing_12))))))) := h
    refine lv_iload hx hb dX11_judged_44 (lv_at hl 4 rfl) ?_
    refine lv_bipush (v := (8 : Int32)) hx hb dX11_judged_46 (by decide) ?_
    refine lv_icmp_ge (tgt := 90) hx hb dX11_judged_48 (by decide) (fun c5 => ?_) (fun c5 => ?_)
    · have h := h.1 c5
      exact hE90 _ _ _ _ _ h hw (lv_sub hl [0, 1, 2, 3] rfl)
    · have h := h.2 c5
      refine lv_iload hx hb dX11_judged_51 (lv_at hl 4 rfl) ?_
      refine lv_iconst (v := (2 : Int32)) hx hb dX11_judged_53 (by decide) ?_
      refine lv_icmp_eq (tgt := 84) hx hb dX11_judged_54 (by decide) (fun c6 => ?_) (fun c6 => ?_)
      · have h := h.1 c6
        refine lv_iinc (v := x4 + (1 : Int32)) (lv' := [(4, .int (x4 + (1 : Int32))), (0, .ref a_this), (1, .int x1), (2, .int x2), (3, .int x3)]) hx hb dX11_judged_84 hl (k := 4) rfl rfl (by decide) rfl (fun ls hl => ?_)
        refine lv_goto (tgt := 44) hx hb dX11_judged_87 (by decide) ?_
        exact ih _ _ _ _ _ _ h hw (lv_sub hl [1, 2, 3, 4, 0] rfl)
      · have h := h.2 c6
        refine lv_iload hx hb dX11_judged_57 (lv_at hl 4 rfl) ?_
        refine lv_iconst (v := (3 : Int32)) hx hb dX11_judged_59 (by decide) ?_
        refine lv_icmp_eq (tgt := 84) hx hb dX11_judged_60 (by decide) (fun c7 => ?_) (fun c7 => ?_)
        · have h := h.1 c7
          refine lv_iinc (v := x4 + (1 : Int32)) (lv' := [(4, .int (x4 + (1 : Int32))), (0, .ref a_this), (1, .int x1), (2, .int x2), (3, .int x3)]) hx hb dX11_judged_84 hl (k := 4) rfl rfl (by decide) rfl (fun ls hl => ?_)
          refine lv_goto (tgt := 44) hx hb dX11_judged_87 (by decide) ?_
          exact ih _ _ _ _ _ _ h hw (lv_sub hl [1, 2, 3, 4, 0] rfl)
        · have h := h.2 c7
          refine lv_aload_n hx hb dX11_judged_63 rfl (lv_at hl 0 rfl) ?_
          refine lv_iload_n hx hb dX11_judged_64 rfl (lv_at hl 3 rfl) ?_
          refine lv_iload hx hb dX11_judged_65 (lv_at hl 4 rfl) ?_
          refine g_cvi (rm := { frames := 6, cells := 0, slots := 0, locals := 496 }) (wn := (fun (u : Unit) => (w_X11_judged cy a_this a_refusals a_s a_met w_image w_read w_tape w_told w_best w_kept w_squares w_far w_queue v_refusals v_s v_isImage v_taped v_at v_met v_wrongHour v_wrongThing v_soonest v_bestSteps))) (As := [.int x3, .int x4]) ha hw hl.1 (c_X11_isWrong (cy := cy)) (cwV 2 ha.2.2.2.2.1 gX11_judged_X11_isWrong rfl rfl rfl hq_X11_isWrong ⟨Nat.le_of_ble_eq_true rfl, Nat.le_of_ble_eq_true rfl⟩) [0, 2] [1, 3] [2, 0, 3, 1] rfl rfl rfl rfl (by decide) rfl (fun _ => rfl) rfl rfl h rfl rfl (Nat.le_of_ble_eq_true rfl) dX11_judged_67 ⟨Nat.le_refl _, Nat.le_refl _⟩ (fun r8 u H locs h hw => ?_)
          have hw : wd D A s.heap (w_X11_judged cy a_this a_refusals a_s a_met w_image w_read w_tape w_told w_best w_kept w_squares w_far w_queue v_refusals v_s v_isImage v_taped v_at v_met v_wrongHour v_wrongThing v_soonest v_bestSteps) H locs := hw
          obtain ⟨zr8, h⟩ := h
          try dsimp only at h
          refine lv_if_eq (tgt := 84) hx hb dX11_judged_70 (by decide) (fun c9 => ?_) (fun c9 => ?_)
          · have h := h.1 c9
            refine lv_iinc (v := x4 + (1 : Int32)) (lv' := [(4, .int (x4 + (1 : Int32))), (0, .ref a_this), (1, .int x1), (2, .int x2), (3, .int x3)]) hx hb dX11_judged_84 hl (k := 4) rfl rfl (by decide) rfl (fun ls hl => ?_)
            refine lv_goto (tgt := 44) hx hb dX11_judged_87 (by decide) ?_
            exact ih _ _ _ _ _ _ h hw (lv_sub hl [1, 2, 3, 4, 0] rfl)
          · have h := h.2 c9
            refine lv_aload_n hx hb dX11_judged_73 rfl (lv_at hl 0 rfl) ?_
            refine lv_aload_n hx hb dX11_judged_74 rfl (lv_at hl 0 rfl) ?_
            refine lv_iload_n hx hb dX11_judged_75 rfl (lv_at hl 3 rfl) ?_
            refine g_cvi (rm := { frames := 1, cells := 0, slots := 0, locals := 64 }) (wn := (fun (u : Unit) => (w_X11_judged cy a_this a_refusals a_s a_met w_image w_read w_tape w_told w_best w_kept w_squares w_far w_queue v_refusals v_s v_isImage v_taped v_at v_met v_wrongHour v_wrongThing v_soonest v_bestSteps))) (As := [.int x3]) ha hw hl.1 (c_X11_hourOf (cy := cy)) (cwV 1 ha.2.2.2.2.1 gX11_judged_X11_hourOf rfl rfl rfl hq_X11_hourOf ⟨Nat.le_of_ble_eq_true rfl, Nat.le_of_ble_eq_true rfl⟩) [0, 2] [1, 3] [2, 0, 3, 1] rfl rfl rfl rfl (by decide) rfl (fun _ => rfl) rfl rfl h rfl rfl (Nat.le_of_ble_eq_true rfl) dX11_judged_76 ⟨Nat.le_refl _, Nat.le_refl _⟩ (fun r10 u H locs h hw => ?_)
            have hw : wd D A s.heap (w_X11_judged cy a_this a_refusals a_s a_met w_image w_read w_tape w_told w_best w_kept w_squares w_far w_queue v_refusals v_s v_isImage v_taped v_at v_met v_wrongHour v_wrongThing v_soonest v_bestSteps) H locs := hw
            try dsimp only at h
            refine lv_iload hx hb dX11_judged_79 (lv_at hl 4 rfl) ?_
            refine g_cvv (rm := { frames := 1, cells := 0, slots := 0, locals := 64 }) (wn := (fun (u : Int32 × Int32) => (w_X11_judged cy a_this a_refusals a_s a_met w_image w_read w_tape w_told w_best w_kept w_squares w_far w_queue v_refusals v_s v_isImage v_taped v_at v_met u.1 u.2 v_soonest v_bestSteps))) (As := [.int r10, .int x4]) ha hw hl.1 (c_X11_notes (cy := cy)) (cwV 2 ha.2.2.2.2.1 gX11_judged_X11_notes rfl rfl rfl hq_X11_notes ⟨Nat.le_of_ble_eq_true rfl, Nat.le_of_ble_eq_true rfl⟩) [0] [1, 2, 3] [3, 0, 1, 2] rfl rfl rfl rfl (by decide) rfl (fun _ => rfl) rfl rfl h rfl rfl (Nat.le_of_ble_eq_true rfl) dX11_judged_81 ⟨Nat.le_refl _, Nat.le_refl _⟩ (fun u H locs h hw => ?_)
            obtain ⟨v_wrongHour_11, v_wrongThing_12⟩ := u
            have hw : wd D A s.heap (w_X11_judged cy a_this a_refusals a_s a_met w_image w_read w_tape w_told w_best w_kept w_squares w_far w_queue v_refusals v_s v_isImage v_taped v_at v_met v_wrongHour_11 v_wrongThing_12 v_soonest v_bestSteps) H locs := hw
            try dsimp only at h
            refine lv_iinc (v := x4 + (1 : Int32)) (lv' := [(4, .int (x4 + (1 : Int32))), (0, .ref a_this), (1, .int x1), (2, .int x2), (3, .int x3)]) hx hb dX11_judged_84 hl (k := 4) rfl rfl (by decide) rfl (fun ls hl => ?_)
            refine lv_goto (tgt := 44) hx hb dX11_judged_87 (by decide) ?_
            exact ih _ _ _ _ _ _ h hw (lv_sub hl [1, 2, 3, 4, 0] rfl)
def wp_X11_judged_36 (x2 : Int32) (v_s : IA) (E114 : Int32 → Int32 → Prop) (K : Int32 → IA → IA → Int32 → Int32 → Prop) : Nat → Int32 → Int32 → Int32 → Prop
  | 0, _, _, _ => False
  | n + 1, x3, v_wrongHour, v_wrongThing => (x2 ≤ x3 → E114 v_wrongHour v_wrongThing) ∧ (¬ (x2 ≤ x3) → ∃ n20 : Nat, wp_X11_judged_44 x3 v_s (fun (v_wrongHour_13 : Int32) (v_wrongThing_14 : Int32) => wp_X11_isShutIn x3 v_s (fun (r15 : Int32) => (r15 = 0 → wp_X11_judged_36 x2 v_s E114 K n (x3 + (1 : Int32)) v_wrongHour_13 v_wrongThing_14) ∧ (¬ (r15 = 0) → wp_X11_endOf x3 v_s (fun (r17 : Int32) => wp_X11_notes r17 (2 : Int32) v_wrongHour_13 v_wrongThing_14 (fun (v_wrongHour_18 : Int32) (v_wrongThing_19 : Int32) => wp_X11_judged_36 x2 v_s E114 K n (x3 + (1 : Int32)) v_wrongHour_18 v_wrongThing_19))))) K n20 (1 : Int32) v_wrongHour v_wrongThing)
set_option maxHeartbeats 4000000 in
set_option maxRecDepth 100000 in
theorem pl_X11_judged_36 {p : Program} {l : Launch} {e : Env} {s : State} {m : MethodId} {args : Array Value} {below : List Frame} {meth : Method} {c : Code} {A : Nat → Prop} {Q : State → Prop} {D : va_G} {cy : ClassId} {a_this a_refusals a_s a_met : Nat} {w_image w_read w_tape w_told w_best w_kept w_squares w_far w_queue : Value} {v_refusals : IA} {v_s : IA} {v_isImage : Int32} {v_taped : Int32} {v_at : Int32} {v_met : IA} {v_soonest : Int32} {v_bestSteps : Int32} {x2 : Int32} {x1 : Int32} {K : Int32 → IA → IA → Int32 → Int32 → Prop} {E114 : Int32 → Int32 → Prop} (ha : am p s m args c cX11_judged 5 RX11 wsX11_judged D cy A) (hr : rtI p l e { frames := 7, cells := 0, slots := 0, locals := 582 } s m args below meth c 0 0 Q cX11_judged D A (fun (u : IA × IA × Int32 × Int32) => (w_X11_judged cy a_this a_refusals a_s a_met w_image w_read w_tape w_told w_best w_kept w_squares w_far w_queue u.1 v_s v_isImage v_taped v_at u.2.1 u.2.2.1 u.2.2.2 v_soonest v_bestSteps)) (fun (r : Int32) (u : IA × IA × Int32 × Int32) => K r u.1 u.2.1 u.2.2.1 u.2.2.2)) (hE114 : ∀ (v_wrongHour' : Int32) (v_wrongThing' : Int32) (H : Heap) (locs : List Loc) (ls : Array Slot), E114 v_wrongHour' v_wrongThing' → wd D A s.heap (w_X11_judged cy a_this a_refusals a_s a_met w_image w_read w_tape w_told w_best w_kept w_squares w_far w_queue v_refusals v_s v_isImage v_taped v_at v_met v_wrongHour' v_wrongThing' v_soonest v_bestSteps) H locs → lv_has ls 5 [(0, .ref a_this), (1, .int x1), (2, .int x2)] → W p l e { frames := 7, cells := 0, slots := 0, locals := 582 } s m args below meth c H locs 0 0 Q (F0 m 114 ls [])) : ∀ (n : Nat) (x3 : Int32) (v_wrongHour : Int32) (v_wrongThing : Int32) (H : Heap) (locs : List Loc) (ls : Array Slot), wp_X11_judged_36 x2 v_s E114 K n x3 v_wrongHour v_wrongThing → wd D A s.heap (w_X11_judged cy a_this a_refusals a_s a_met w_image w_read w_tape w_told w_best w_kept w_squares w_far w_queue v_refusals v_s v_isImage v_taped v_at v_met v_wrongHour v_wrongThing v_soonest v_bestSteps) H locs → lv_has ls 5 [(0, .ref a_this), (1, .int x1), (2, .int x2), (3, .int x3)] → W p l e { frames := 7, cells := 0, slots := 0, locals := 582 } s m args below meth c H locs 0 0 Q (F0 m 36 ls []) := by
  have hx := ha.1
  have hb := ha.2.1
  intro n
  induction n with
  | zero => exact fun _ _ _ _ _ _ h _ _ => False.elim h
  | succ n ih =>
    intro x3 v_wrongHour v_wrongThing H locs ls h hw hl
    have h : (x2 ≤ x3 → E114 v_wrongHour v_wrongThing) ∧ (¬ (x2 ≤ x3) → ∃ n20 : Nat, wp_X11_judged_44 x3 v_s (fun (v_wrongHour_13 : Int32) (v_wrongThing_14 : Int32) => wp_X11_isShutIn x3 v_s (fun (r15 : Int32) => (r15 = 0 → wp_X11_judged_36 x2 v_s E114 K n (x3 + (1 : Int32)) v_wrongHour_13 v_wrongThing_14) ∧ (¬ (r15 = 0) → wp_X11_endOf x3 v_s (fun (r17 : Int32) => wp_X11_notes r17 (2 : Int32) v_wrongHour_13 v_wrongThing_14 (fun (v_wrongHour_18 : Int32) (v_wrongThing_19 : Int32) => wp_X11_judged_36 x2 v_s E114 K n (x3 + (1 : Int32)) v_wrongHour_18 v_wrongThing_19))))) K n20 (1 : Int32) v_wrongHour v_wrongThing) := h
    refine lv_iload_n hx hb dX11_judged_36 rfl (lv_at hl 3 rfl) ?_
    refine lv_iload_n hx hb dX11_judged_37 rfl (lv_at hl 2 rfl) ?_
    refine lv_icmp_ge (tgt := 114) hx hb dX11_judged_38 (by decide) (fun c4 => ?_) (fun c4 => ?_)
    · have h := h.1 c4
      exact hE114 _ _ _ _ _ h hw (lv_sub hl [0, 1, 2] rfl)
    · have h := h.2 c4
      refine lv_iconst (v := (1 : Int32)) hx hb dX11_judged_41 (by decide) ?_
      refine lv_istore (lv' := [(4, .int (1 : Int32)), (0, .ref a_this), (1, .int x1), (2, .int x2), (3, .int x3)]) hx hb dX11_judged_42 hl (by decide) rfl (fun ls hl => ?_)
      obtain ⟨n9, h⟩ := h
      refine pl_X11_judged_44 ha hr ?_ n9 _ _ _ _ _ _ h hw (lv_sub hl [1, 2, 3, 4, 0] rfl)
      · intro v_wrongHour_13 v_wrongThing_14 H locs ls h hw hl
        try dsimp only at h
        refine lv_aload_n hx hb dX11_judged_90 rfl (lv_at hl 0 rfl) ?_
        refine lv_iload_n hx hb dX11_judged_91 rfl (lv_at hl 3 rfl) ?_
        refine g_cvi (rm := { frames := 5, cells := 0, slots := 0, locals := 411 }) (wn := (fun (u : Unit) => (w_X11_judged cy a_this a_refusals a_s a_met w_image w_read w_tape w_told w_best w_kept w_squares w_far w_queue v_refusals v_s v_isImage v_taped v_at v_met v_wrongHour_13 v_wrongThing_14 v_soonest v_bestSteps))) (As := [.int x3]) ha hw hl.1 (c_X11_isShutIn (cy := cy)) (cwV 1 ha.2.2.2.2.1 gX11_judged_X11_isShutIn rfl rfl rfl hq_X11_isShutIn ⟨Nat.le_of_ble_eq_true rfl, Nat.le_of_ble_eq_true rfl⟩) [0, 2] [1, 3] [2, 0, 3, 1] rfl rfl rfl rfl (by decide) rfl (fun _ => rfl) rfl rfl h rfl rfl (Nat.le_of_ble_eq_true rfl) dX11_judged_92 ⟨Nat.le_refl _, Nat.le_refl _⟩ (fun r15 u H locs h hw => ?_)
        have hw : wd D A s.heap (w_X11_judged cy a_this a_refusals a_s a_met w_image w_read w_tape w_told w_best w_kept w_squares w_far w_queue v_refusals v_s v_isImage v_taped v_at v_met v_wrongHour_13 v_wrongThing_14 v_soonest v_bestSteps) H locs := hw
        obtain ⟨zr15, h⟩ := h
        try dsimp only at h
        refine lv_if_eq (tgt := 108) hx hb dX11_judged_95 (by decide) (fun c16 => ?_) (fun c16 => ?_)
        · have h := h.1 c16
          refine lv_iinc (v := x3 + (1 : Int32)) (lv' := [(3, .int (x3 + (1 : Int32))), (0, .ref a_this), (1, .int x1), (2, .int x2)]) hx hb dX11_judged_108 hl (k := 3) rfl rfl (by decide) rfl (fun ls hl => ?_)
          refine lv_goto (tgt := 36) hx hb dX11_judged_111 (by decide) ?_
          exact ih _ _ _ _ _ _ h hw (lv_sub hl [1, 2, 3, 0] rfl)
        · have h := h.2 c16
          refine lv_aload_n hx hb dX11_judged_98 rfl (lv_at hl 0 rfl) ?_
          refine lv_aload_n hx hb dX11_judged_99 rfl (lv_at hl 0 rfl) ?_
          refine lv_iload_n hx hb dX11_judged_100 rfl (lv_at hl 3 rfl) ?_
          refine g_cvi (rm := { frames := 2, cells := 0, slots := 0, locals := 149 }) (wn := (fun (u : Unit) => (w_X11_judged cy a_this a_refusals a_s a_met w_image w_read w_tape w_told w_best w_kept w_squares w_far w_queue v_refusals v_s v_isImage v_taped v_at v_met v_wrongHour_13 v_wrongThing_14 v_soonest v_bestSteps))) (As := [.int x3]) ha hw hl.1 (c_X11_endOf (cy := cy)) (cwV 1 ha.2.2.2.2.1 gX11_judged_X11_endOf rfl rfl rfl hq_X11_endOf ⟨Nat.le_of_ble_eq_true rfl, Nat.le_of_ble_eq_true rfl⟩) [0, 2] [1, 3] [2, 0, 3, 1] rfl rfl rfl rfl (by decide) rfl (fun _ => rfl) rfl rfl h rfl rfl (Nat.le_of_ble_eq_true rfl) dX11_judged_101 ⟨Nat.le_refl _, Nat.le_refl _⟩ (fun r17 u H locs h hw => ?_)
          have hw : wd D A s.heap (w_X11_judged cy a_this a_refusals a_s a_met w_image w_read w_tape w_told w_best w_kept w_squares w_far w_queue v_refusals v_s v_isImage v_taped v_at v_met v_wrongHour_13 v_wrongThing_14 v_soonest v_bestSteps) H locs := hw
          try dsimp only at h
          refine lv_iconst (v := (2 : Int32)) hx hb dX11_judged_104 (by decide) ?_
          refine g_cvv (rm := { frames := 1, cells := 0, slots := 0, locals := 64 }) (wn := (fun (u : Int32 × Int32) => (w_X11_judged cy a_this a_refusals a_s a_met w_image w_read w_tape w_told w_best w_kept w_squares w_far w_queue v_refusals v_s v_isImage v_taped v_at v_met u.1 u.2 v_soonest v_bestSteps))) (As := [.int r17, .int (2 : Int32)]) ha hw hl.1 (c_X11_notes (cy := cy)) (cwV 2 ha.2.2.2.2.1 gX11_judged_X11_notes rfl rfl rfl hq_X11_notes ⟨Nat.le_of_ble_eq_true rfl, Nat.le_of_ble_eq_true rfl⟩) [0] [1, 2, 3] [3, 0, 1, 2] rfl rfl rfl rfl (by decide) rfl (fun _ => rfl) rfl rfl h rfl rfl (Nat.le_of_ble_eq_true rfl) dX11_judged_105 ⟨Nat.le_refl _, Nat.le_refl _⟩ (fun u H locs h hw => ?_)
          obtain ⟨v_wrongHour_18, v_wrongThing_19⟩ := u
          have hw : wd D A s.heap (w_X11_judged cy a_this a_refusals a_s a_met w_image w_read w_tape w_told w_best w_kept w_squares w_far w_queue v_refusals v_s v_isImage v_taped v_at v_met v_wrongHour_18 v_wrongThing_19 v_soonest v_bestSteps) H locs := hw
          try dsimp only at h
          refine lv_iinc (v := x3 + (1 : Int32)) (lv' := [(3, .int (x3 + (1 : Int32))), (0, .ref a_this), (1, .int x1), (2, .int x2)]) hx hb dX11_judged_108 hl (k := 3) rfl rfl (by decide) rfl (fun ls hl => ?_)
          refine lv_goto (tgt := 36) hx hb dX11_judged_111 (by decide) ?_
          exact ih _ _ _ _ _ _ h hw (lv_sub hl [1, 2, 3, 0] rfl)
def wp_X11_judged_140 (x2 : Int32) (v_s : IA) (E185 : Int32 → Int32 → Prop) (K : Int32 → IA → IA → Int32 → Int32 → Prop) : Nat → Int32 → Int32 → Int32 → Prop
  | 0, _, _, _ => False
  | n + 1, x4, v_wrongHour, v_wrongThing => ((v_s (0 : Int32).toNatClampNeg) ≤ x4 → E185 v_wrongHour v_wrongThing) ∧ (¬ ((v_s (0 : Int32).toNatClampNeg) ≤ x4) → wp_X11_coatsOf x4 x2 v_s (fun (r27 : Int32) => vp_in ((15 : Int32) + x4) 120 ∧ (((v_s ((15 : Int32) + x4).toNatClampNeg) ≤ r27 → wp_X11_judged_140 x2 v_s E185 K n (x4 + (1 : Int32)) v_wrongHour v_wrongThing) ∧ (¬ ((v_s ((15 : Int32) + x4).toNatClampNeg) ≤ r27) → wp_X11_notes (99 : Int32) (8 : Int32) v_wrongHour v_wrongThing (fun (v_wrongHour_30 : Int32) (v_wrongThing_31 : Int32) => wp_X11_judged_140 x2 v_s E185 K n (x4 + (1 : Int32)) v_wrongHour_30 v_wrongThing_31)))))
set_option maxHeartbeats 4000000 in
set_option maxRecDepth 100000 in
theorem pl_X11_judged_140 {p : Program} {l : Launch} {e : Env} {s : State} {m : MethodId} {args : Array Value} {below : List Frame} {meth : Method} {c : Code} {A : Nat → Prop} {Q : State → Prop} {D : va_G} {cy : ClassId} {a_this a_refusals a_s a_met : Nat} {w_image w_read w_tape w_told w_best w_kept w_squares w_far w_queue : Value} {v_refusals : IA} {v_s : IA} {v_isImage : Int32} {v_taped : Int32} {v_at : Int32} {v_met : IA} {v_soonest : Int32} {v_bestSteps : Int32} {x2 : Int32} {x1 : Int32} {K : Int32 → IA → IA → Int32 → Int32 → Prop} {E185 : Int32 → Int32 → Prop} (ha : am p s m args c cX11_judged 5 RX11 wsX11_judged D cy A) (hr : rtI p l e { frames := 7, cells := 0, slots := 0, locals := 582 } s m args below meth c 0 0 Q cX11_judged D A (fun (u : IA × IA × Int32 × Int32) => (w_X11_judged cy a_this a_refusals a_s a_met w_image w_read w_tape w_told w_best w_kept w_squares w_far w_queue u.1 v_s v_isImage v_taped v_at u.2.1 u.2.2.1 u.2.2.2 v_soonest v_bestSteps)) (fun (r : Int32) (u : IA × IA × Int32 × Int32) => K r u.1 u.2.1 u.2.2.1 u.2.2.2)) (hE185 : ∀ (v_wrongHour' : Int32) (v_wrongThing' : Int32) (H : Heap) (locs : List Loc) (ls : Array Slot), E185 v_wrongHour' v_wrongThing' → wd D A s.heap (w_X11_judged cy a_this a_refusals a_s a_met w_image w_read w_tape w_told w_best w_kept w_squares w_far w_queue v_refusals v_s v_isImage v_taped v_at v_met v_wrongHour' v_wrongThing' v_soonest v_bestSteps) H locs → lv_has ls 5 [(0, .ref a_this), (1, .int x1)] → W p l e { frames := 7, cells := 0, slots := 0, locals := 582 } s m args below meth c H locs 0 0 Q (F0 m 185 ls [])) : ∀ (n : Nat) (x4 : Int32) (v_wrongHour : Int32) (v_wrongThing : Int32) (H : Heap) (locs : List Loc) (ls : Array Slot), wp_X11_judged_140 x2 v_s E185 K n x4 v_wrongHour v_wrongThing → wd D A s.heap (w_X11_judged cy a_this a_refusals a_s a_met w_image w_read w_tape w_told w_best w_kept w_squares w_far w_queue v_refusals v_s v_isImage v_taped v_at v_met v_wrongHour v_wrongThing v_soonest v_bestSteps) H locs → lv_has ls 5 [(0, .ref a_this), (1, .int x1), (2, .int x2), (4, .int x4)] → W p l e { frames := 7, cells := 0, slots := 0, locals := 582 } s m args below meth c H locs 0 0 Q (F0 m 140 ls []) := by
  have hx := ha.1
  have hb := ha.2.1
  intro n
  induction n with
  | zero => exact fun _ _ _ _ _ _ h _ _ => False.elim h
  | succ n ih =>
    intro x4 v_wrongHour v_wrongThing H locs ls h hw hl
    have h : ((v_s (0 : Int32).toNatClampNeg) ≤ x4 → E185 v_wrongHour v_wrongThing) ∧ (¬ ((v_s (0 : Int32).toNatClampNeg) ≤ x4) → wp_X11_coatsOf x4 x2 v_s (fun (r27 : Int32) => vp_in ((15 : Int32) + x4) 120 ∧ (((v_s ((15 : Int32) + x4).toNatClampNeg) ≤ r27 → wp_X11_judged_140 x2 v_s E185 K n (x4 + (1 : Int32)) v_wrongHour v_wrongThing) ∧ (¬ ((v_s ((15 : Int32) + x4).toNatClampNeg) ≤ r27) → wp_X11_notes (99 : Int32) (8 : Int32) v_wrongHour v_wrongThing (fun (v_wrongHour_30 : Int32) (v_wrongThing_31 : Int32) => wp_X11_judged_140 x2 v_s E185 K n (x4 + (1 : Int32)) v_wrongHour_30 v_wrongThing_31))))) := h
    refine lv_iload hx hb dX11_judged_140 (lv_at hl 3 rfl) ?_
    refine lv_aload_n hx hb dX11_judged_142 rfl (lv_at hl 0 rfl) ?_
    refine g_get (ci := 11) ha hw 0 1 rfl hi_X11_judged_11 (by decide) (List.mem_of_getElem? (i := 3) rfl) rfl rfl dX11_judged_143 ?_
    refine lv_iconst (v := (0 : Int32)) hx hb dX11_judged_146 (by decide) ?_
    refine g_ald ha hw 2 rfl (vp_in_iff.mpr (by decide)) dX11_judged_147 ?_
    refine lv_icmp_ge (tgt := 185) hx hb dX11_judged_148 (by decide) (fun c26 => ?_) (fun c26 => ?_)
    · have h := h.1 c26
      exact hE185 _ _ _ _ _ h hw (lv_sub hl [0, 1] rfl)
    · have h := h.2 c26
      refine lv_aload_n hx hb dX11_judged_151 rfl (lv_at hl 0 rfl) ?_
      refine lv_iload hx hb dX11_judged_152 (lv_at hl 3 rfl) ?_
      refine lv_iload_n hx hb dX11_judged_154 rfl (lv_at hl 2 rfl) ?_
      refine g_cvi (rm := { frames := 2, cells := 0, slots := 0, locals := 149 }) (wn := (fun (u : Unit) => (w_X11_judged cy a_this a_refusals a_s a_met w_image w_read w_tape w_told w_best w_kept w_squares w_far w_queue v_refusals v_s v_isImage v_taped v_at v_met v_wrongHour v_wrongThing v_soonest v_bestSteps))) (As := [.int x4, .int x2]) ha hw hl.1 (c_X11_coatsOf (cy := cy)) (cwV 2 ha.2.2.2.2.1 gX11_judged_X11_coatsOf rfl rfl rfl hq_X11_coatsOf ⟨Nat.le_of_ble_eq_true rfl, Nat.le_of_ble_eq_true rfl⟩) [0, 2] [1, 3] [2, 0, 3, 1] rfl rfl rfl rfl (by decide) rfl (fun _ => rfl) rfl rfl h rfl rfl (Nat.le_of_ble_eq_true rfl) dX11_judged_155 ⟨Nat.le_refl _, Nat.le_refl _⟩ (fun r27 u H locs h hw => ?_)
      have hw : wd D A s.heap (w_X11_judged cy a_this a_refusals a_s a_met w_image w_read w_tape w_told w_best w_kept w_squares w_far w_queue v_refusals v_s v_isImage v_taped v_at v_met v_wrongHour v_wrongThing v_soonest v_bestSteps) H locs := hw
      try dsimp only at h
      refine lv_aload_n hx hb dX11_judged_158 rfl (lv_at hl 0 rfl) ?_
      refine g_get (ci := 11) ha hw 0 1 rfl hi_X11_judged_11 (by decide) (List.mem_of_getElem? (i := 3) rfl) rfl rfl dX11_judged_159 ?_
      refine lv_bipush (v := (15 : Int32)) hx hb dX11_judged_162 (by decide) ?_
      refine lv_iload hx hb dX11_judged_164 (lv_at hl 3 rfl) ?_
      refine lv_iadd hx hb dX11_judged_166 ?_
      obtain ⟨z28, h⟩ := h
      refine g_ald ha hw 2 rfl z28 dX11_judged_167 ?_
      refine lv_icmp_ge (tgt := 179) hx hb dX11_judged_168 (by decide) (fun c29 => ?_) (fun c29 => ?_)
      · have h := h.1 c29
        refine lv_iinc (v := x4 + (1 : Int32)) (lv' := [(4, .int (x4 + (1 : Int32))), (0, .ref a_this), (1, .int x1), (2, .int x2)]) hx hb dX11_judged_179 hl (k := 3) rfl rfl (by decide) rfl (fun ls hl => ?_)
        refine lv_goto (tgt := 140) hx hb dX11_judged_182 (by decide) ?_
        exact ih _ _ _ _ _ _ h hw (lv_sub hl [1, 2, 3, 0] rfl)
      · have h := h.2 c29
        refine lv_aload_n hx hb dX11_judged_171 rfl (lv_at hl 0 rfl) ?_
        refine lv_bipush (v := (99 : Int32)) hx hb dX11_judged_172 (by decide) ?_
        refine lv_bipush (v := (8 : Int32)) hx hb dX11_judged_174 (by decide) ?_
        refine g_cvv (rm := { frames := 1, cells := 0, slots := 0, locals := 64 }) (wn := (fun (u : Int32 × Int32) => (w_X11_judged cy a_this a_refusals a_s a_met w_image w_read w_tape w_told w_best w_kept w_squares w_far w_queue v_refusals v_s v_isImage v_taped v_at v_met u.1 u.2 v_soonest v_bestSteps))) (As := [.int (99 : Int32), .int (8 : Int32)]) ha hw hl.1 (c_X11_notes (cy := cy)) (cwV 2 ha.2.2.2.2.1 gX11_judged_X11_notes rfl rfl rfl hq_X11_notes ⟨Nat.le_of_ble_eq_true rfl, Nat.le_of_ble_eq_true rfl⟩) [0] [1, 2, 3] [3, 0, 1, 2] rfl rfl rfl rfl (by decide) rfl (fun _ => rfl) rfl rfl h rfl rfl (Nat.le_of_ble_eq_true rfl) dX11_judged_176 ⟨Nat.le_refl _, Nat.le_refl _⟩ (fun u H locs h hw => ?_)
        obtain ⟨v_wrongHour_30, v_wrongThing_31⟩ := u
        have hw : wd D A s.heap (w_X11_judged cy a_this a_refusals a_s a_met w_image w_read w_tape w_told w_best w_kept w_squares w_far w_queue v_refusals v_s v_isImage v_taped v_at v_met v_wrongHour_30 v_wrongThing_31 v_soonest v_bestSteps) H locs := hw
        try dsimp only at h
        refine lv_iinc (v := x4 + (1 : Int32)) (lv' := [(4, .int (x4 + (1 : Int32))), (0, .ref a_this), (1, .int x1), (2, .int x2)]) hx hb dX11_judged_179 hl (k := 3) rfl rfl (by decide) rfl (fun ls hl => ?_)
        refine lv_goto (tgt := 140) hx hb dX11_judged_182 (by decide) ?_
        exact ih _ _ _ _ _ _ h hw (lv_sub hl [1, 2, 3, 0] rfl)
def wp_X11_judged (x1 : Int32) (v_refusals : IA) (v_s : IA) (v_met : IA) (v_wrongHour : Int32) (v_wrongThing : Int32) (K : Int32 → IA → IA → Int32 → Int32 → Prop) : Prop := wp_X11_isIn x1 (2 : Int32) (fun (r1 : Int32) => (r1 = 0 → wp_X11_refuse (-2 : Int32) v_refusals (fun (r43 : Int32) (v_refusals_44 : IA) => K r43 v_refusals_44 v_met v_wrongHour v_wrongThing)) ∧ (¬ (r1 = 0) → ∀ x2_3 : Int32, x2_3 = v_s (3 : Int32).toNatClampNeg → ∃ n42 : Nat, wp_X11_judged_36 x2_3 v_s (fun (v_wrongHour_21 : Int32) (v_wrongThing_22 : Int32) => wp_X11_findMet v_s v_met (fun (v_met_23 : IA) => wp_X11_failsAt x2_3 (0 : Int32) (99 : Int32) v_s v_met_23 (fun (r24 : Int32) => (r24 < 0 → ∃ n35 : Nat, wp_X11_judged_140 x2_3 v_s (fun (v_wrongHour_32 : Int32) (v_wrongThing_33 : Int32) => (x1 = 0 → K v_wrongHour_32 v_refusals v_met_23 v_wrongHour_32 v_wrongThing_33) ∧ (¬ (x1 = 0) → K v_wrongThing_33 v_refusals v_met_23 v_wrongHour_32 v_wrongThing_33)) K n35 (1 : Int32) v_wrongHour_21 v_wrongThing_22) ∧ (¬ (r24 < 0) → wp_X11_notes r24 (3 : Int32) v_wrongHour_21 v_wrongThing_22 (fun (v_wrongHour_36 : Int32) (v_wrongThing_37 : Int32) => ∃ n41 : Nat, wp_X11_judged_140 x2_3 v_s (fun (v_wrongHour_38 : Int32) (v_wrongThing_39 : Int32) => (x1 = 0 → K v_wrongHour_38 v_refusals v_met_23 v_wrongHour_38 v_wrongThing_39) ∧ (¬ (x1 = 0) → K v_wrongThing_39 v_refusals v_met_23 v_wrongHour_38 v_wrongThing_39)) K n41 (1 : Int32) v_wrongHour_36 v_wrongThing_37))))) K n42 (0 : Int32) (-9 : Int32) (-9 : Int32)))
set_option maxHeartbeats 4000000 in
set_option maxRecDepth 100000 in
theorem c_X11_judged {l : Launch} {D : va_G} {cy : ClassId} {a_this a_refusals a_s a_met : Nat} {w_image w_read w_tape w_told w_best w_kept w_squares w_far w_queue : Value} {v_refusals : IA} {v_s : IA} {v_isImage : Int32} {v_taped : Int32} {v_at : Int32} {v_met : IA} {v_wrongHour : Int32} {v_wrongThing : Int32} {v_soonest : Int32} {v_bestSteps : Int32} {x1 : Int32} {K : Int32 → IA → IA → Int32 → Int32 → Prop} : CtI l yX11_judged wsX11_judged { frames := 7, cells := 0, slots := 0, locals := 582 } 0 0 D cy [.ref a_this, .int x1] (w_X11_judged cy a_this a_refusals a_s a_met w_image w_read w_tape w_told w_best w_kept w_squares w_far w_queue v_refusals v_s v_isImage v_taped v_at v_met v_wrongHour v_wrongThing v_soonest v_bestSteps) (wp_X11_judged x1 v_refusals v_s v_met v_wrongHour v_wrongThing K) (fun (u : IA × IA × Int32 × Int32) => (w_X11_judged cy a_this a_refusals a_s a_met w_image w_read w_tape w_told w_best w_kept w_squares w_far w_queue u.1 v_s v_isImage v_taped v_at u.2.1 u.2.2.1 u.2.2.2 v_soonest v_bestSteps)) (fun (r : Int32) (u : IA × IA × Int32 × Int32) => K r u.1 u.2.1 u.2.2.1 u.2.2.2) := by
  refine CtI.mk (cc := cX11_judged) (nL := 5) (ty := .int) (by decide) rfl (Nat.le_of_ble_eq_true rfl) (fun r u h => rfl) ?_
  intro p e s m args below meth c A Q ha hr _ h ls hl hw
  have ha : am p s m args c cX11_judged 5 RX11 wsX11_judged D cy A := ha
  have hx := ha.1
  have hb := ha.2.1
  have hl : lv_has ls 5 [(0, .ref a_this), (1, .int x1)] := hl
  have h : wp_X11_isIn x1 (2 : Int32) (fun (r1 : Int32) => (r1 = 0 → wp_X11_refuse (-2 : Int32) v_refusals (fun (r43 : Int32) (v_refusals_44 : IA) => K r43 v_refusals_44 v_met v_wrongHour v_wrongThing)) ∧ (¬ (r1 = 0) → ∀ x2_3 : Int32, x2_3 = v_s (3 : Int32).toNatClampNeg → ∃ n42 : Nat, wp_X11_judged_36 x2_3 v_s (fun (v_wrongHour_21 : Int32) (v_wrongThing_22 : Int32) => wp_X11_findMet v_s v_met (fun (v_met_23 : IA) => wp_X11_failsAt x2_3 (0 : Int32) (99 : Int32) v_s v_met_23 (fun (r24 : Int32) => (r24 < 0 → ∃ n35 : Nat, wp_X11_judged_140 x2_3 v_s (fun (v_wrongHour_32 : Int32) (v_wrongThing_33 : Int32) => (x1 = 0 → K v_wrongHour_32 v_refusals v_met_23 v_wrongHour_32 v_wrongThing_33) ∧ (¬ (x1 = 0) → K v_wrongThing_33 v_refusals v_met_23 v_wrongHour_32 v_wrongThing_33)) K n35 (1 : Int32) v_wrongHour_21 v_wrongThing_22) ∧ (¬ (r24 < 0) → wp_X11_notes r24 (3 : Int32) v_wrongHour_21 v_wrongThing_22 (fun (v_wrongHour_36 : Int32) (v_wrongThing_37 : Int32) => ∃ n41 : Nat, wp_X11_judged_140 x2_3 v_s (fun (v_wrongHour_38 : Int32) (v_wrongThing_39 : Int32) => (x1 = 0 → K v_wrongHour_38 v_refusals v_met_23 v_wrongHour_38 v_wrongThing_39) ∧ (¬ (x1 = 0) → K v_wrongThing_39 v_refusals v_met_23 v_wrongHour_38 v_wrongThing_39)) K n41 (1 : Int32) v_wrongHour_36 v_wrongThing_37))))) K n42 (0 : Int32) (-9 : Int32) (-9 : Int32))) := h
  refine lv_iload_n hx hb dX11_judged_0 rfl (lv_at hl 1 rfl) ?_
  refine lv_iconst (v := (2 : Int32)) hx hb dX11_judged_1 (by decide) ?_
  refine g_csi (rm := { frames := 1, cells := 0, slots := 0, locals := 64 }) (wn := (fun (u : Unit) => (w_X11_judged cy a_this a_refusals a_s a_met w_image w_read w_tape w_told w_best w_kept w_squares w_far w_queue v_refusals v_s v_isImage v_taped v_at v_met v_wrongHour v_wrongThing v_soonest v_bestSteps))) (As := [.int x1, .int (2 : Int32)]) ha hw hl.1 (c_X11_isIn (cy := cy)) (va_cwS 2 ha.2.2.2.2.1 gX11_judged_X11_isIn rfl rfl rfl hq_X11_isIn ⟨Nat.le_of_ble_eq_true rfl, Nat.le_of_ble_eq_true rfl⟩) [] [0, 1, 2, 3] [0, 1, 2, 3] rfl rfl rfl rfl (by decide) rfl (fun _ => rfl) h rfl rfl (Nat.le_of_ble_eq_true rfl) dX11_judged_2 ⟨Nat.le_refl _, Nat.le_refl _⟩ (fun r1 u H locs h hw => ?_)
  have hw : wd D A s.heap (w_X11_judged cy a_this a_refusals a_s a_met w_image w_read w_tape w_told w_best w_kept w_squares w_far w_queue v_refusals v_s v_isImage v_taped v_at v_met v_wrongHour v_wrongThing v_soonest v_bestSteps) H locs := hw
  obtain ⟨zr1, h⟩ := h
  try dsimp only at h
  refine lv_if_ne (tgt := 15) hx hb dX11_judged_5 (by decide) (fun c2 => ?_) (fun c2 => ?_)
  · have h := h.2 c2
    refine lv_aload_n hx hb dX11_judged_15 rfl (lv_at hl 0 rfl) ?_
    refine lv_bipush (v := (-9 : Int32)) hx hb dX11_judged_16 (by decide) ?_
    refine g_put (ci := 11) (wn := (w_X11_judged cy a_this a_refusals a_s a_met w_image w_read w_tape w_told w_best w_kept w_squares w_far w_queue v_refusals v_s v_isImage v_taped v_at v_met (-9 : Int32) v_wrongThing v_soonest v_bestSteps)) ha hw 0 10 rfl hi_X11_judged_11 tyX11_ok nmX11 (by decide) (List.mem_of_getElem? (i := 1) rfl) rfl rfl rfl rfl (Nat.le_of_ble_eq_true rfl) rfl dX11_judged_18 (fun H locs hw => ?_)
    refine lv_aload_n hx hb dX11_judged_21 rfl (lv_at hl 0 rfl) ?_
    refine lv_bipush (v := (-9 : Int32)) hx hb dX11_judged_22 (by decide) ?_
    refine g_put (ci := 11) (wn := (w_X11_judged cy a_this a_refusals a_s a_met w_image w_read w_tape w_told w_best w_kept w_squares w_far w_queue v_refusals v_s v_isImage v_taped v_at v_met (-9 : Int32) (-9 : Int32) v_soonest v_bestSteps)) ha hw 0 11 rfl hi_X11_judged_11 tyX11_ok nmX11 (by decide) (List.mem_of_getElem? (i := 2) rfl) rfl rfl rfl rfl (Nat.le_of_ble_eq_true rfl) rfl dX11_judged_24 (fun H locs hw => ?_)
    refine lv_aload_n hx hb dX11_judged_27 rfl (lv_at hl 0 rfl) ?_
    refine g_get (ci := 11) ha hw 0 1 rfl hi_X11_judged_11 (by decide) (List.mem_of_getElem? (i := 3) rfl) rfl rfl dX11_judged_28 ?_
    refine lv_iconst (v := (3 : Int32)) hx hb dX11_judged_31 (by decide) ?_
    refine g_ald ha hw 2 rfl (vp_in_iff.mpr (by decide)) dX11_judged_32 ?_
    refine lv_topi (fun x2_3 ex2_3 => ?_)
    have h := h x2_3 ex2_3
    refine lv_istore_n (lv' := [(2, .int x2_3), (0, .ref a_this), (1, .int x1)]) hx hb dX11_judged_33 rfl hl (by decide) rfl (fun ls hl => ?_)
    refine lv_iconst (v := (0 : Int32)) hx hb dX11_judged_34 (by decide) ?_
    refine lv_istore_n (lv' := [(3, .int (0 : Int32)), (2, .int x2_3), (0, .ref a_this), (1, .int x1)]) hx hb dX11_judged_35 rfl hl (by decide) rfl (fun ls hl => ?_)
    obtain ⟨n9, h⟩ := h
    refine pl_X11_judged_36 ha hr ?_ n9 _ _ _ _ _ _ h hw (lv_sub hl [2, 3, 1, 0] rfl)
    · intro v_wrongHour_21 v_wrongThing_22 H locs ls h hw hl
      try dsimp only at h
      refine lv_aload_n hx hb dX11_judged_114 rfl (lv_at hl 0 rfl) ?_
      refine g_cvv (rm := { frames := 4, cells := 0, slots := 0, locals := 329 }) (wn := (fun (u : IA) => (w_X11_judged cy a_this a_refusals a_s a_met w_image w_read w_tape w_told w_best w_kept w_squares w_far w_queue v_refusals v_s v_isImage v_taped v_at u v_wrongHour_21 v_wrongThing_22 v_soonest v_bestSteps))) (As := []) ha hw hl.1 (c_X11_findMet (cy := cy)) (cwV 0 ha.2.2.2.2.1 gX11_judged_X11_findMet rfl rfl rfl hq_X11_findMet ⟨Nat.le_of_ble_eq_true rfl, Nat.le_of_ble_eq_true rfl⟩) [0, 2, 3] [1] [1, 0, 2, 3] rfl rfl rfl rfl (by decide) rfl (fun _ => rfl) rfl rfl h rfl rfl (Nat.le_of_ble_eq_true rfl) dX11_judged_115 ⟨Nat.le_refl _, Nat.le_refl _⟩ (fun u H locs h hw => ?_)
      obtain ⟨v_met_23, rfl⟩ : ∃ z, z = u := ⟨_, rfl⟩
      have hw : wd D A s.heap (w_X11_judged cy a_this a_refusals a_s a_met w_image w_read w_tape w_told w_best w_kept w_squares w_far w_queue v_refusals v_s v_isImage v_taped v_at v_met_23 v_wrongHour_21 v_wrongThing_22 v_soonest v_bestSteps) H locs := hw
      try dsimp only at h
      refine lv_aload_n hx hb dX11_judged_118 rfl (lv_at hl 0 rfl) ?_
      refine lv_iload_n hx hb dX11_judged_119 rfl (lv_at hl 2 rfl) ?_
      refine lv_iconst (v := (0 : Int32)) hx hb dX11_judged_120 (by decide) ?_
      refine lv_bipush (v := (99 : Int32)) hx hb dX11_judged_121 (by decide) ?_
      refine g_cvi (rm := { frames := 4, cells := 0, slots := 0, locals := 324 }) (wn := (fun (u : Unit) => (w_X11_judged cy a_this a_refusals a_s a_met w_image w_read w_tape w_told w_best w_kept w_squares w_far w_queue v_refusals v_s v_isImage v_taped v_at v_met_23 v_wrongHour_21 v_wrongThing_22 v_soonest v_bestSteps))) (As := [.int x2_3, .int (0 : Int32), .int (99 : Int32)]) ha hw hl.1 (c_X11_failsAt (cy := cy)) (cwV 3 ha.2.2.2.2.1 gX11_judged_X11_failsAt rfl rfl rfl hq_X11_failsAt ⟨Nat.le_of_ble_eq_true rfl, Nat.le_of_ble_eq_true rfl⟩) [0, 2, 3] [1] [1, 0, 2, 3] rfl rfl rfl rfl (by decide) rfl (fun _ => rfl) rfl rfl h rfl rfl (Nat.le_of_ble_eq_true rfl) dX11_judged_123 ⟨Nat.le_refl _, Nat.le_refl _⟩ (fun r24 u H locs h hw => ?_)
      have hw : wd D A s.heap (w_X11_judged cy a_this a_refusals a_s a_met w_image w_read w_tape w_told w_best w_kept w_squares w_far w_queue v_refusals v_s v_isImage v_taped v_at v_met_23 v_wrongHour_21 v_wrongThing_22 v_soonest v_bestSteps) H locs := hw
      try dsimp only at h
      refine lv_istore_n (lv' := [(3, .int r24), (0, .ref a_this), (1, .int x1), (2, .int x2_3)]) hx hb dX11_judged_126 rfl hl (by decide) rfl (fun ls hl => ?_)
      refine lv_iload_n hx hb dX11_judged_127 rfl (lv_at hl 0 rfl) ?_
      refine lv_if_lt (tgt := 137) hx hb dX11_judged_128 (by decide) (fun c25 => ?_) (fun c25 => ?_)
      · have h := h.1 c25
        refine lv_iconst (v := (1 : Int32)) hx hb dX11_judged_137 (by decide) ?_
        refine lv_istore (lv' := [(4, .int (1 : Int32)), (3, .int r24), (0, .ref a_this), (1, .int x1), (2, .int x2_3)]) hx hb dX11_judged_138 hl (by decide) rfl (fun ls hl => ?_)
        obtain ⟨n9, h⟩ := h
        refine pl_X11_judged_140 ha hr ?_ n9 _ _ _ _ _ _ h hw (lv_sub hl [2, 3, 4, 0] rfl)
        · intro v_wrongHour_32 v_wrongThing_33 H locs ls h hw hl
          try dsimp only at h
          refine lv_iload_n hx hb dX11_judged_185 rfl (lv_at hl 1 rfl) ?_
          refine lv_if_ne (tgt := 196) hx hb dX11_judged_186 (by decide) (fun c34 => ?_) (fun c34 => ?_)
          · have h := h.2 c34
            refine lv_aload_n hx hb dX11_judged_196 rfl (lv_at hl 0 rfl) ?_
            refine g_get (ci := 11) ha hw 0 11 rfl hi_X11_judged_11 (by decide) (List.mem_of_getElem? (i := 2) rfl) rfl rfl dX11_judged_197 ?_
            exact hr _ _ (v_refusals, v_met_23, v_wrongHour_32, v_wrongThing_33) _ _ _ dX11_judged_200 h hw
          · have h := h.1 c34
            refine lv_aload_n hx hb dX11_judged_189 rfl (lv_at hl 0 rfl) ?_
            refine g_get (ci := 11) ha hw 0 10 rfl hi_X11_judged_11 (by decide) (List.mem_of_getElem? (i := 1) rfl) rfl rfl dX11_judged_190 ?_
            refine lv_goto (tgt := 200) hx hb dX11_judged_193 (by decide) ?_
            exact hr _ _ (v_refusals, v_met_23, v_wrongHour_32, v_wrongThing_33) _ _ _ dX11_judged_200 h hw
      · have h := h.2 c25
        refine lv_aload_n hx hb dX11_judged_131 rfl (lv_at hl 1 rfl) ?_
        refine lv_iload_n hx hb dX11_judged_132 rfl (lv_at hl 0 rfl) ?_
        refine lv_iconst (v := (3 : Int32)) hx hb dX11_judged_133 (by decide) ?_
        refine g_cvv (rm := { frames := 1, cells := 0, slots := 0, locals := 64 }) (wn := (fun (u : Int32 × Int32) => (w_X11_judged cy a_this a_refusals a_s a_met w_image w_read w_tape w_told w_best w_kept w_squares w_far w_queue v_refusals v_s v_isImage v_taped v_at v_met_23 u.1 u.2 v_soonest v_bestSteps))) (As := [.int r24, .int (3 : Int32)]) ha hw hl.1 (c_X11_notes (cy := cy)) (cwV 2 ha.2.2.2.2.1 gX11_judged_X11_notes rfl rfl rfl hq_X11_notes ⟨Nat.le_of_ble_eq_true rfl, Nat.le_of_ble_eq_true rfl⟩) [0] [1, 2, 3] [3, 0, 1, 2] rfl rfl rfl rfl (by decide) rfl (fun _ => rfl) rfl rfl h rfl rfl (Nat.le_of_ble_eq_true rfl) dX11_judged_134 ⟨Nat.le_refl _, Nat.le_refl _⟩ (fun u H locs h hw => ?_)
        obtain ⟨v_wrongHour_36, v_wrongThing_37⟩ := u
        have hw : wd D A s.heap (w_X11_judged cy a_this a_refusals a_s a_met w_image w_read w_tape w_told w_best w_kept w_squares w_far w_queue v_refusals v_s v_isImage v_taped v_at v_met_23 v_wrongHour_36 v_wrongThing_37 v_soonest v_bestSteps) H locs := hw
        try dsimp only at h
        refine lv_iconst (v := (1 : Int32)) hx hb dX11_judged_137 (by decide) ?_
        refine lv_istore (lv' := [(4, .int (1 : Int32)), (3, .int r24), (0, .ref a_this), (1, .int x1), (2, .int x2_3)]) hx hb dX11_judged_138 hl (by decide) rfl (fun ls hl => ?_)
        obtain ⟨n9, h⟩ := h
        refine pl_X11_judged_140 ha hr ?_ n9 _ _ _ _ _ _ h hw (lv_sub hl [2, 3, 4, 0] rfl)
        · intro v_wrongHour_38 v_wrongThing_39 H locs ls h hw hl
          try dsimp only at h
          refine lv_iload_n hx hb dX11_judged_185 rfl (lv_at hl 1 rfl) ?_
          refine lv_if_ne (tgt := 196) hx hb dX11_judged_186 (by decide) (fun c40 => ?_) (fun c40 => ?_)
          · have h := h.2 c40
            refine lv_aload_n hx hb dX11_judged_196 rfl (lv_at hl 0 rfl) ?_
            refine g_get (ci := 11) ha hw 0 11 rfl hi_X11_judged_11 (by decide) (List.mem_of_getElem? (i := 2) rfl) rfl rfl dX11_judged_197 ?_
            exact hr _ _ (v_refusals, v_met_23, v_wrongHour_38, v_wrongThing_39) _ _ _ dX11_judged_200 h hw
          · have h := h.1 c40
            refine lv_aload_n hx hb dX11_judged_189 rfl (lv_at hl 0 rfl) ?_
            refine g_get (ci := 11) ha hw 0 10 rfl hi_X11_judged_11 (by decide) (List.mem_of_getElem? (i := 1) rfl) rfl rfl dX11_judged_190 ?_
            refine lv_goto (tgt := 200) hx hb dX11_judged_193 (by decide) ?_
            exact hr _ _ (v_refusals, v_met_23, v_wrongHour_38, v_wrongThing_39) _ _ _ dX11_judged_200 h hw
  · have h := h.1 c2
    refine lv_aload_n hx hb dX11_judged_8 rfl (lv_at hl 0 rfl) ?_
    refine lv_bipush (v := (-2 : Int32)) hx hb dX11_judged_9 (by decide) ?_
    refine g_cvi (rm := { frames := 1, cells := 0, slots := 0, locals := 64 }) (wn := (fun (u : IA) => (w_X11_judged cy a_this a_refusals a_s a_met w_image w_read w_tape w_told w_best w_kept w_squares w_far w_queue u v_s v_isImage v_taped v_at v_met v_wrongHour v_wrongThing v_soonest v_bestSteps))) (As := [.int (-2 : Int32)]) ha hw hl.1 (c_X11_refuse (cy := cy)) (cwV 1 ha.2.2.2.2.1 gX11_judged_X11_refuse rfl rfl rfl hq_X11_refuse ⟨Nat.le_of_ble_eq_true rfl, Nat.le_of_ble_eq_true rfl⟩) [0, 1] [2, 3] [2, 3, 0, 1] rfl rfl rfl rfl (by decide) rfl (fun _ => rfl) rfl rfl h rfl rfl (Nat.le_of_ble_eq_true rfl) dX11_judged_11 ⟨Nat.le_refl _, Nat.le_refl _⟩ (fun r43 u H locs h hw => ?_)
    obtain ⟨v_refusals_44, rfl⟩ : ∃ z, z = u := ⟨_, rfl⟩
    have hw : wd D A s.heap (w_X11_judged cy a_this a_refusals a_s a_met w_image w_read w_tape w_told w_best w_kept w_squares w_far w_queue v_refusals_44 v_s v_isImage v_taped v_at v_met v_wrongHour v_wrongThing v_soonest v_bestSteps) H locs := hw
    try dsimp only at h
    exact hr _ _ (v_refusals_44, v_met, v_wrongHour, v_wrongThing) _ _ _ dX11_judged_14 h hw
theorem hq_X11_done : yX11_done.cls = RX11 ∧ yX11_done.cls ≠ "java/lang/invoke/MethodHandle" ∧ yX11_done.cls ≠ "java/lang/invoke/VarHandle" ∧ (parseMethodDescriptor yX11_done.desc).map (fun d => d.parameters.length) = some 0 := by decide +kernel
def w_X11_done (cy : ClassId) (a_this a_s : Nat) (w_refusals w_image w_read w_tape w_told w_met w_best w_kept w_squares w_far w_queue : Value) (v_s : IA) (v_isImage : Int32) (v_taped : Int32) (v_at : Int32) (v_wrongHour : Int32) (v_wrongThing : Int32) (v_soonest : Int32) (v_bestSteps : Int32) : va_W := [(a_this, .inr (11, [w_refusals, .ref a_s, w_image, w_read, .int v_isImage, w_tape, w_told, .int v_taped, .int v_at, w_met, .int v_wrongHour, .int v_wrongThing, w_best, w_kept, .int v_soonest, .int v_bestSteps, w_squares, w_far, w_queue])), (a_s, .inl (cy, 120, .inl v_s))]
theorem hi_X11_done_11 : ∀ w ∈ u_ws RX11 TX11 19, w ∈ wsX11_done := fun _ h => List.mem_cons_of_mem _ (List.mem_append_right _ h)
def wp_X11_done (v_s : IA) (K : Int32 → Prop) : Prop := ((v_s (3 : Int32).toNatClampNeg) = 0 → K (-9 : Int32)) ∧ (¬ ((v_s (3 : Int32).toNatClampNeg) = 0) → wp_X11_endOf ((v_s (3 : Int32).toNatClampNeg) - (1 : Int32)) v_s (fun (r2 : Int32) => K r2))
set_option maxHeartbeats 4000000 in
set_option maxRecDepth 100000 in
theorem c_X11_done {l : Launch} {D : va_G} {cy : ClassId} {a_this a_s : Nat} {w_refusals w_image w_read w_tape w_told w_met w_best w_kept w_squares w_far w_queue : Value} {v_s : IA} {v_isImage : Int32} {v_taped : Int32} {v_at : Int32} {v_wrongHour : Int32} {v_wrongThing : Int32} {v_soonest : Int32} {v_bestSteps : Int32} {K : Int32 → Prop} : CtI l yX11_done wsX11_done { frames := 3, cells := 0, slots := 0, locals := 234 } 0 0 D cy [.ref a_this] (w_X11_done cy a_this a_s w_refusals w_image w_read w_tape w_told w_met w_best w_kept w_squares w_far w_queue v_s v_isImage v_taped v_at v_wrongHour v_wrongThing v_soonest v_bestSteps) (wp_X11_done v_s K) (fun (u : Unit) => (w_X11_done cy a_this a_s w_refusals w_image w_read w_tape w_told w_met w_best w_kept w_squares w_far w_queue v_s v_isImage v_taped v_at v_wrongHour v_wrongThing v_soonest v_bestSteps)) (fun (r : Int32) (u : Unit) => K r) := by
  refine CtI.mk (cc := cX11_done) (nL := 1) (ty := .int) (by decide) rfl (Nat.le_of_ble_eq_true rfl) (fun r u h => rfl) ?_
  intro p e s m args below meth c A Q ha hr _ h ls hl hw
  have ha : am p s m args c cX11_done 1 RX11 wsX11_done D cy A := ha
  have hx := ha.1
  have hb := ha.2.1
  have hl : lv_has ls 1 [(0, .ref a_this)] := hl
  have h : ((v_s (3 : Int32).toNatClampNeg) = 0 → K (-9 : Int32)) ∧ (¬ ((v_s (3 : Int32).toNatClampNeg) = 0) → wp_X11_endOf ((v_s (3 : Int32).toNatClampNeg) - (1 : Int32)) v_s (fun (r2 : Int32) => K r2)) := h
  refine lv_aload_n hx hb dX11_done_0 rfl (lv_at hl 0 rfl) ?_
  refine g_get (ci := 11) ha hw 0 1 rfl hi_X11_done_11 (by decide) (List.mem_of_getElem? (i := 1) rfl) rfl rfl dX11_done_1 ?_
  refine lv_iconst (v := (3 : Int32)) hx hb dX11_done_4 (by decide) ?_
  refine g_ald ha hw 1 rfl (vp_in_iff.mpr (by decide)) dX11_done_5 ?_
  refine lv_if_ne (tgt := 14) hx hb dX11_done_6 (by decide) (fun c1 => ?_) (fun c1 => ?_)
  · have h := h.2 c1
    refine lv_aload_n hx hb dX11_done_14 rfl (lv_at hl 0 rfl) ?_
    refine lv_aload_n hx hb dX11_done_15 rfl (lv_at hl 0 rfl) ?_
    refine g_get (ci := 11) ha hw 0 1 rfl hi_X11_done_11 (by decide) (List.mem_of_getElem? (i := 1) rfl) rfl rfl dX11_done_16 ?_
    refine lv_iconst (v := (3 : Int32)) hx hb dX11_done_19 (by decide) ?_
    refine g_ald ha hw 1 rfl (vp_in_iff.mpr (by decide)) dX11_done_20 ?_
    refine lv_iconst (v := (1 : Int32)) hx hb dX11_done_21 (by decide) ?_
    refine lv_isub hx hb dX11_done_22 ?_
    refine g_cvi (rm := { frames := 2, cells := 0, slots := 0, locals := 149 }) (wn := (fun (u : Unit) => (w_X11_done cy a_this a_s w_refusals w_image w_read w_tape w_told w_met w_best w_kept w_squares w_far w_queue v_s v_isImage v_taped v_at v_wrongHour v_wrongThing v_soonest v_bestSteps))) (As := [.int ((v_s (3 : Int32).toNatClampNeg) - (1 : Int32))]) ha hw hl.1 (c_X11_endOf (cy := cy)) (cwV 1 ha.2.2.2.2.1 gX11_done_X11_endOf rfl rfl rfl hq_X11_endOf ⟨Nat.le_of_ble_eq_true rfl, Nat.le_of_ble_eq_true rfl⟩) [0, 1] [] [0, 1] rfl rfl rfl rfl (by decide) rfl (fun _ => rfl) rfl rfl h rfl rfl (Nat.le_of_ble_eq_true rfl) dX11_done_23 ⟨Nat.le_refl _, Nat.le_refl _⟩ (fun r2 u H locs h hw => ?_)
    have hw : wd D A s.heap (w_X11_done cy a_this a_s w_refusals w_image w_read w_tape w_told w_met w_best w_kept w_squares w_far w_queue v_s v_isImage v_taped v_at v_wrongHour v_wrongThing v_soonest v_bestSteps) H locs := hw
    try dsimp only at h
    exact hr _ _ () _ _ _ dX11_done_26 h hw
  · have h := h.1 c1
    refine lv_bipush (v := (-9 : Int32)) hx hb dX11_done_9 (by decide) ?_
    refine lv_goto (tgt := 26) hx hb dX11_done_11 (by decide) ?_
    exact hr _ _ () _ _ _ dX11_done_26 h hw
theorem hq_X11_where : yX11_where.cls = RX11 ∧ yX11_where.cls ≠ "java/lang/invoke/MethodHandle" ∧ yX11_where.cls ≠ "java/lang/invoke/VarHandle" ∧ (parseMethodDescriptor yX11_where.desc).map (fun d => d.parameters.length) = some 1 := by decide +kernel
def w_X11_where (cy : ClassId) (a_this a_refusals a_s : Nat) (w_image w_read w_tape w_told w_met w_best w_kept w_squares w_far w_queue : Value) (v_refusals : IA) (v_s : IA) (v_isImage : Int32) (v_taped : Int32) (v_at : Int32) (v_wrongHour : Int32) (v_wrongThing : Int32) (v_soonest : Int32) (v_bestSteps : Int32) : va_W := [(a_this, .inr (11, [.ref a_refusals, .ref a_s, w_image, w_read, .int v_isImage, w_tape, w_told, .int v_taped, .int v_at, w_met, .int v_wrongHour, .int v_wrongThing, w_best, w_kept, .int v_soonest, .int v_bestSteps, w_squares, w_far, w_queue])), (a_refusals, .inl (cy, 7, .inl v_refusals)), (a_s, .inl (cy, 120, .inl v_s))]
theorem hi_X11_where_11 : ∀ w ∈ u_ws RX11 TX11 19, w ∈ wsX11_where := fun _ h => List.mem_cons_of_mem _ (List.mem_append_right _ h)
def wp_X11_where (x1 : Int32) (v_refusals : IA) (v_s : IA) (K : Int32 → IA → Prop) : Prop := wp_X11_isIn x1 ((v_s (3 : Int32).toNatClampNeg) + (1 : Int32)) (fun (r1 : Int32) => (r1 = 0 → wp_X11_refuse (-1 : Int32) v_refusals (fun (r3 : Int32) (v_refusals_4 : IA) => K r3 v_refusals_4)) ∧ (¬ (r1 = 0) → wp_X11_whereOf x1 v_s (fun (r5 : Int32) => K r5 v_refusals)))
set_option maxHeartbeats 4000000 in
set_option maxRecDepth 100000 in
theorem c_X11_where {l : Launch} {D : va_G} {cy : ClassId} {a_this a_refusals a_s : Nat} {w_image w_read w_tape w_told w_met w_best w_kept w_squares w_far w_queue : Value} {v_refusals : IA} {v_s : IA} {v_isImage : Int32} {v_taped : Int32} {v_at : Int32} {v_wrongHour : Int32} {v_wrongThing : Int32} {v_soonest : Int32} {v_bestSteps : Int32} {x1 : Int32} {K : Int32 → IA → Prop} : CtI l yX11_where wsX11_where { frames := 6, cells := 0, slots := 0, locals := 496 } 0 0 D cy [.ref a_this, .int x1] (w_X11_where cy a_this a_refusals a_s w_image w_read w_tape w_told w_met w_best w_kept w_squares w_far w_queue v_refusals v_s v_isImage v_taped v_at v_wrongHour v_wrongThing v_soonest v_bestSteps) (wp_X11_where x1 v_refusals v_s K) (fun (u : IA) => (w_X11_where cy a_this a_refusals a_s w_image w_read w_tape w_told w_met w_best w_kept w_squares w_far w_queue u v_s v_isImage v_taped v_at v_wrongHour v_wrongThing v_soonest v_bestSteps)) (fun (r : Int32) (u : IA) => K r u) := by
  refine CtI.mk (cc := cX11_where) (nL := 2) (ty := .int) (by decide) rfl (Nat.le_of_ble_eq_true rfl) (fun r u h => rfl) ?_
  intro p e s m args below meth c A Q ha hr _ h ls hl hw
  have ha : am p s m args c cX11_where 2 RX11 wsX11_where D cy A := ha
  have hx := ha.1
  have hb := ha.2.1
  have hl : lv_has ls 2 [(0, .ref a_this), (1, .int x1)] := hl
  have h : wp_X11_isIn x1 ((v_s (3 : Int32).toNatClampNeg) + (1 : Int32)) (fun (r1 : Int32) => (r1 = 0 → wp_X11_refuse (-1 : Int32) v_refusals (fun (r3 : Int32) (v_refusals_4 : IA) => K r3 v_refusals_4)) ∧ (¬ (r1 = 0) → wp_X11_whereOf x1 v_s (fun (r5 : Int32) => K r5 v_refusals))) := h
  refine lv_iload_n hx hb dX11_where_0 rfl (lv_at hl 1 rfl) ?_
  refine lv_aload_n hx hb dX11_where_1 rfl (lv_at hl 0 rfl) ?_
  refine g_get (ci := 11) ha hw 0 1 rfl hi_X11_where_11 (by decide) (List.mem_of_getElem? (i := 1) rfl) rfl rfl dX11_where_2 ?_
  refine lv_iconst (v := (3 : Int32)) hx hb dX11_where_5 (by decide) ?_
  refine g_ald ha hw 2 rfl (vp_in_iff.mpr (by decide)) dX11_where_6 ?_
  refine lv_iconst (v := (1 : Int32)) hx hb dX11_where_7 (by decide) ?_
  refine lv_iadd hx hb dX11_where_8 ?_
  refine g_csi (rm := { frames := 1, cells := 0, slots := 0, locals := 64 }) (wn := (fun (u : Unit) => (w_X11_where cy a_this a_refusals a_s w_image w_read w_tape w_told w_met w_best w_kept w_squares w_far w_queue v_refusals v_s v_isImage v_taped v_at v_wrongHour v_wrongThing v_soonest v_bestSteps))) (As := [.int x1, .int ((v_s (3 : Int32).toNatClampNeg) + (1 : Int32))]) ha hw hl.1 (c_X11_isIn (cy := cy)) (va_cwS 2 ha.2.2.2.2.1 gX11_where_X11_isIn rfl rfl rfl hq_X11_isIn ⟨Nat.le_of_ble_eq_true rfl, Nat.le_of_ble_eq_true rfl⟩) [] [0, 1, 2] [0, 1, 2] rfl rfl rfl rfl (by decide) rfl (fun _ => rfl) h rfl rfl (Nat.le_of_ble_eq_true rfl) dX11_where_9 ⟨Nat.le_refl _, Nat.le_refl _⟩ (fun r1 u H locs h hw => ?_)
  have hw : wd D A s.heap (w_X11_where cy a_this a_refusals a_s w_image w_read w_tape w_told w_met w_best w_kept w_squares w_far w_queue v_refusals v_s v_isImage v_taped v_at v_wrongHour v_wrongThing v_soonest v_bestSteps) H locs := hw
  obtain ⟨zr1, h⟩ := h
  try dsimp only at h
  refine lv_if_eq (tgt := 23) hx hb dX11_where_12 (by decide) (fun c2 => ?_) (fun c2 => ?_)
  · have h := h.1 c2
    refine lv_aload_n hx hb dX11_where_23 rfl (lv_at hl 0 rfl) ?_
    refine lv_iconst (v := (-1 : Int32)) hx hb dX11_where_24 (by decide) ?_
    refine g_cvi (rm := { frames := 1, cells := 0, slots := 0, locals := 64 }) (wn := (fun (u : IA) => (w_X11_where cy a_this a_refusals a_s w_image w_read w_tape w_told w_met w_best w_kept w_squares w_far w_queue u v_s v_isImage v_taped v_at v_wrongHour v_wrongThing v_soonest v_bestSteps))) (As := [.int (-1 : Int32)]) ha hw hl.1 (c_X11_refuse (cy := cy)) (cwV 1 ha.2.2.2.2.1 gX11_where_X11_refuse rfl rfl rfl hq_X11_refuse ⟨Nat.le_of_ble_eq_true rfl, Nat.le_of_ble_eq_true rfl⟩) [0, 1] [2] [1, 2, 0] rfl rfl rfl rfl (by decide) rfl (fun _ => rfl) rfl rfl h rfl rfl (Nat.le_of_ble_eq_true rfl) dX11_where_25 ⟨Nat.le_refl _, Nat.le_refl _⟩ (fun r3 u H locs h hw => ?_)
    obtain ⟨v_refusals_4, rfl⟩ : ∃ z, z = u := ⟨_, rfl⟩
    have hw : wd D A s.heap (w_X11_where cy a_this a_refusals a_s w_image w_read w_tape w_told w_met w_best w_kept w_squares w_far w_queue v_refusals_4 v_s v_isImage v_taped v_at v_wrongHour v_wrongThing v_soonest v_bestSteps) H locs := hw
    try dsimp only at h
    exact hr _ _ (v_refusals_4) _ _ _ dX11_where_28 h hw
  · have h := h.2 c2
    refine lv_aload_n hx hb dX11_where_15 rfl (lv_at hl 0 rfl) ?_
    refine lv_iload_n hx hb dX11_where_16 rfl (lv_at hl 1 rfl) ?_
    refine g_cvi (rm := { frames := 5, cells := 0, slots := 0, locals := 411 }) (wn := (fun (u : Unit) => (w_X11_where cy a_this a_refusals a_s w_image w_read w_tape w_told w_met w_best w_kept w_squares w_far w_queue v_refusals v_s v_isImage v_taped v_at v_wrongHour v_wrongThing v_soonest v_bestSteps))) (As := [.int x1]) ha hw hl.1 (c_X11_whereOf (cy := cy)) (cwV 1 ha.2.2.2.2.1 gX11_where_X11_whereOf rfl rfl rfl hq_X11_whereOf ⟨Nat.le_of_ble_eq_true rfl, Nat.le_of_ble_eq_true rfl⟩) [0, 2] [1] [1, 0, 2] rfl rfl rfl rfl (by decide) rfl (fun _ => rfl) rfl rfl h rfl rfl (Nat.le_of_ble_eq_true rfl) dX11_where_17 ⟨Nat.le_refl _, Nat.le_refl _⟩ (fun r5 u H locs h hw => ?_)
    have hw : wd D A s.heap (w_X11_where cy a_this a_refusals a_s w_image w_read w_tape w_told w_met w_best w_kept w_squares w_far w_queue v_refusals v_s v_isImage v_taped v_at v_wrongHour v_wrongThing v_soonest v_bestSteps) H locs := hw
    try dsimp only at h
    refine lv_goto (tgt := 28) hx hb dX11_where_20 (by decide) ?_
    exact hr _ _ (v_refusals) _ _ _ dX11_where_28 h hw
theorem hq_X11_coatsInAll : yX11_coatsInAll.cls = RX11 ∧ yX11_coatsInAll.cls ≠ "java/lang/invoke/MethodHandle" ∧ yX11_coatsInAll.cls ≠ "java/lang/invoke/VarHandle" ∧ (parseMethodDescriptor yX11_coatsInAll.desc).map (fun d => d.parameters.length) = some 0 := by decide +kernel
def w_X11_coatsInAll (cy : ClassId) (a_this a_s : Nat) (w_refusals w_image w_read w_tape w_told w_met w_best w_kept w_squares w_far w_queue : Value) (v_s : IA) (v_isImage : Int32) (v_taped : Int32) (v_at : Int32) (v_wrongHour : Int32) (v_wrongThing : Int32) (v_soonest : Int32) (v_bestSteps : Int32) : va_W := [(a_this, .inr (11, [w_refusals, .ref a_s, w_image, w_read, .int v_isImage, w_tape, w_told, .int v_taped, .int v_at, w_met, .int v_wrongHour, .int v_wrongThing, w_best, w_kept, .int v_soonest, .int v_bestSteps, w_squares, w_far, w_queue])), (a_s, .inl (cy, 120, .inl v_s))]
theorem hi_X11_coatsInAll_11 : ∀ w ∈ u_ws RX11 TX11 19, w ∈ wsX11_coatsInAll := fun _ h => List.mem_cons_of_mem _ (List.mem_append_right _ h)
def wp_X11_coatsInAll_4 (v_s : IA) (K : Int32 → Prop) : Nat → Int32 → Int32 → Prop
  | 0, _, _ => False
  | n + 1, x1, x2 => ((v_s (0 : Int32).toNatClampNeg) ≤ x2 → K x1) ∧ (¬ ((v_s (0 : Int32).toNatClampNeg) ≤ x2) → vp_in ((15 : Int32) + x2) 120 ∧ (∀ x1_3 : Int32, x1_3 = x1 + (v_s ((15 : Int32) + x2).toNatClampNeg) → wp_X11_coatsInAll_4 v_s K n x1_3 (x2 + (1 : Int32))))
set_option maxHeartbeats 4000000 in
set_option maxRecDepth 100000 in
theorem pl_X11_coatsInAll_4 {p : Program} {l : Launch} {e : Env} {s : State} {m : MethodId} {args : Array Value} {below : List Frame} {meth : Method} {c : Code} {A : Nat → Prop} {Q : State → Prop} {D : va_G} {cy : ClassId} {a_this a_s : Nat} {w_refusals w_image w_read w_tape w_told w_met w_best w_kept w_squares w_far w_queue : Value} {v_s : IA} {v_isImage : Int32} {v_taped : Int32} {v_at : Int32} {v_wrongHour : Int32} {v_wrongThing : Int32} {v_soonest : Int32} {v_bestSteps : Int32} {K : Int32 → Prop} (ha : am p s m args c cX11_coatsInAll 3 RX11 wsX11_coatsInAll D cy A) (hr : rtI p l e { frames := 1, cells := 0, slots := 0, locals := 64 } s m args below meth c 0 0 Q cX11_coatsInAll D A (fun (u : Unit) => (w_X11_coatsInAll cy a_this a_s w_refusals w_image w_read w_tape w_told w_met w_best w_kept w_squares w_far w_queue v_s v_isImage v_taped v_at v_wrongHour v_wrongThing v_soonest v_bestSteps)) (fun (r : Int32) (u : Unit) => K r)) : ∀ (n : Nat) (x1 : Int32) (x2 : Int32) (H : Heap) (locs : List Loc) (ls : Array Slot), wp_X11_coatsInAll_4 v_s K n x1 x2 → wd D A s.heap (w_X11_coatsInAll cy a_this a_s w_refusals w_image w_read w_tape w_told w_met w_best w_kept w_squares w_far w_queue v_s v_isImage v_taped v_at v_wrongHour v_wrongThing v_soonest v_bestSteps) H locs → lv_has ls 3 [(0, .ref a_this), (1, .int x1), (2, .int x2)] → W p l e { frames := 1, cells := 0, slots := 0, locals := 64 } s m args below meth c H locs 0 0 Q (F0 m 4 ls []) := by
  have hx := ha.1
  have hb := ha.2.1
  intro n
  induction n with
  | zero => exact fun _ _ _ _ _ h _ _ => False.elim h
  | succ n ih =>
    intro x1 x2 H locs ls h hw hl
    have h : ((v_s (0 : Int32).toNatClampNeg) ≤ x2 → K x1) ∧ (¬ ((v_s (0 : Int32).toNatClampNeg) ≤ x2) → vp_in ((15 : Int32) + x2) 120 ∧ (∀ x1_3 : Int32, x1_3 = x1 + (v_s ((15 : Int32) + x2).toNatClampNeg) → wp_X11_coatsInAll_4 v_s K n x1_3 (x2 + (1 : Int32)))) := h
    refine lv_iload_n hx hb dX11_coatsInAll_4 rfl (lv_at hl 2 rfl) ?_
    refine lv_aload_n hx hb dX11_coatsInAll_5 rfl (lv_at hl 0 rfl) ?_
    refine g_get (ci := 11) ha hw 0 1 rfl hi_X11_coatsInAll_11 (by decide) (List.mem_of_getElem? (i := 1) rfl) rfl rfl dX11_coatsInAll_6 ?_
    refine lv_iconst (v := (0 : Int32)) hx hb dX11_coatsInAll_9 (by decide) ?_
    refine g_ald ha hw 1 rfl (vp_in_iff.mpr (by decide)) dX11_coatsInAll_10 ?_
    refine lv_icmp_ge (tgt := 32) hx hb dX11_coatsInAll_11 (by decide) (fun c1 => ?_) (fun c1 => ?_)
    · have h := h.1 c1
      refine lv_iload_n hx hb dX11_coatsInAll_32 rfl (lv_at hl 1 rfl) ?_
      exact hr _ _ () _ _ _ dX11_coatsInAll_33 h hw
    · have h := h.2 c1
      refine lv_iload_n hx hb dX11_coatsInAll_14 rfl (lv_at hl 1 rfl) ?_
      refine lv_aload_n hx hb dX11_coatsInAll_15 rfl (lv_at hl 0 rfl) ?_
      refine g_get (ci := 11) ha hw 0 1 rfl hi_X11_coatsInAll_11 (by decide) (List.mem_of_getElem? (i := 1) rfl) rfl rfl dX11_coatsInAll_16 ?_
      refine lv_bipush (v := (15 : Int32)) hx hb dX11_coatsInAll_19 (by decide) ?_
      refine lv_iload_n hx hb dX11_coatsInAll_21 rfl (lv_at hl 2 rfl) ?_
      refine lv_iadd hx hb dX11_coatsInAll_22 ?_
      obtain ⟨z2, h⟩ := h
      refine g_ald ha hw 1 rfl z2 dX11_coatsInAll_23 ?_
      refine lv_iadd hx hb dX11_coatsInAll_24 ?_
      refine lv_topi (fun x1_3 ex1_3 => ?_)
      have h := h x1_3 ex1_3
      refine lv_istore_n (lv' := [(1, .int x1_3), (0, .ref a_this), (2, .int x2)]) hx hb dX11_coatsInAll_25 rfl hl (by decide) rfl (fun ls hl => ?_)
      refine lv_iinc (v := x2 + (1 : Int32)) (lv' := [(2, .int (x2 + (1 : Int32))), (1, .int x1_3), (0, .ref a_this)]) hx hb dX11_coatsInAll_26 hl (k := 2) rfl rfl (by decide) rfl (fun ls hl => ?_)
      refine lv_goto (tgt := 4) hx hb dX11_coatsInAll_29 (by decide) ?_
      exact ih _ _ _ _ _ h hw (lv_sub hl [2, 1, 0] rfl)
def wp_X11_coatsInAll (v_s : IA) (K : Int32 → Prop) : Prop := ∃ n4 : Nat, wp_X11_coatsInAll_4 v_s K n4 (0 : Int32) (1 : Int32)
set_option maxHeartbeats 4000000 in
set_option maxRecDepth 100000 in
theorem c_X11_coatsInAll {l : Launch} {D : va_G} {cy : ClassId} {a_this a_s : Nat} {w_refusals w_image w_read w_tape w_told w_met w_best w_kept w_squares w_far w_queue : Value} {v_s : IA} {v_isImage : Int32} {v_taped : Int32} {v_at : Int32} {v_wrongHour : Int32} {v_wrongThing : Int32} {v_soonest : Int32} {v_bestSteps : Int32} {K : Int32 → Prop} : CtI l yX11_coatsInAll wsX11_coatsInAll { frames := 1, cells := 0, slots := 0, locals := 64 } 0 0 D cy [.ref a_this] (w_X11_coatsInAll cy a_this a_s w_refusals w_image w_read w_tape w_told w_met w_best w_kept w_squares w_far w_queue v_s v_isImage v_taped v_at v_wrongHour v_wrongThing v_soonest v_bestSteps) (wp_X11_coatsInAll v_s K) (fun (u : Unit) => (w_X11_coatsInAll cy a_this a_s w_refusals w_image w_read w_tape w_told w_met w_best w_kept w_squares w_far w_queue v_s v_isImage v_taped v_at v_wrongHour v_wrongThing v_soonest v_bestSteps)) (fun (r : Int32) (u : Unit) => K r) := by
  refine CtI.mk (cc := cX11_coatsInAll) (nL := 3) (ty := .int) (by decide) rfl (Nat.le_of_ble_eq_true rfl) (fun r u h => rfl) ?_
  intro p e s m args below meth c A Q ha hr _ h ls hl hw
  have ha : am p s m args c cX11_coatsInAll 3 RX11 wsX11_coatsInAll D cy A := ha
  have hx := ha.1
  have hb := ha.2.1
  have hl : lv_has ls 3 [(0, .ref a_this)] := hl
  have h : ∃ n4 : Nat, wp_X11_coatsInAll_4 v_s K n4 (0 : Int32) (1 : Int32) := h
  refine lv_iconst (v := (0 : Int32)) hx hb dX11_coatsInAll_0 (by decide) ?_
  refine lv_istore_n (lv' := [(1, .int (0 : Int32)), (0, .ref a_this)]) hx hb dX11_coatsInAll_1 rfl hl (by decide) rfl (fun ls hl => ?_)
  refine lv_iconst (v := (1 : Int32)) hx hb dX11_coatsInAll_2 (by decide) ?_
  refine lv_istore_n (lv' := [(2, .int (1 : Int32)), (1, .int (0 : Int32)), (0, .ref a_this)]) hx hb dX11_coatsInAll_3 rfl hl (by decide) rfl (fun ls hl => ?_)
  obtain ⟨n9, h⟩ := h
  refine pl_X11_coatsInAll_4 ha hr n9 _ _ _ _ _ h hw (lv_sub hl [2, 1, 0] rfl)
theorem hq_X11_canBegin : yX11_canBegin.cls = RX11 ∧ yX11_canBegin.cls ≠ "java/lang/invoke/MethodHandle" ∧ yX11_canBegin.cls ≠ "java/lang/invoke/VarHandle" ∧ (parseMethodDescriptor yX11_canBegin.desc).map (fun d => d.parameters.length) = some 1 := by decide +kernel
def w_X11_canBegin (cy : ClassId) (a_this a_s a_met : Nat) (w_refusals w_image w_read w_tape w_told w_best w_kept w_squares w_far w_queue : Value) (v_s : IA) (v_isImage : Int32) (v_taped : Int32) (v_at : Int32) (v_met : IA) (v_wrongHour : Int32) (v_wrongThing : Int32) (v_soonest : Int32) (v_bestSteps : Int32) : va_W := [(a_this, .inr (11, [w_refusals, .ref a_s, w_image, w_read, .int v_isImage, w_tape, w_told, .int v_taped, .int v_at, .ref a_met, .int v_wrongHour, .int v_wrongThing, w_best, w_kept, .int v_soonest, .int v_bestSteps, w_squares, w_far, w_queue])), (a_s, .inl (cy, 120, .inl v_s)), (a_met, .inl (cy, 64, .inl v_met))]
theorem hi_X11_canBegin_11 : ∀ w ∈ u_ws RX11 TX11 19, w ∈ wsX11_canBegin := fun _ h => List.mem_cons_of_mem _ (List.mem_append_right _ h)
def wp_X11_canBegin_96 (x2 : Int32) (x4 : Int32) (v_s : IA) (v_met : IA) (E44 : Int32 → Prop) (K : Int32 → IA → Prop) (x3 : Int32) (t0 : Int32) : Prop := wp_X11_isWrong x2 (4 : Int32) v_s (fun (r10 : Int32) => (r10 = 0 → wp_X11_isWrong x2 (5 : Int32) v_s (fun (r12 : Int32) => (r12 = 0 → wp_X11_isWrong x2 (1 : Int32) v_s (fun (r14 : Int32) => (r14 = 0 → wp_X11_isShutIn x2 v_s (fun (r16 : Int32) => (r16 = 0 → wp_X11_failsAt (x2 + (1 : Int32)) x4 t0 v_s v_met (fun (r18 : Int32) => (0 ≤ r18 → E44 (x3 + (1 : Int32))) ∧ (¬ (0 ≤ r18) → K (1 : Int32) v_s))) ∧ (¬ (r16 = 0) → E44 (x3 + (1 : Int32))))) ∧ (¬ (r14 = 0) → E44 (x3 + (1 : Int32))))) ∧ (¬ (r12 = 0) → E44 (x3 + (1 : Int32))))) ∧ (¬ (r10 = 0) → E44 (x3 + (1 : Int32))))
set_option maxHeartbeats 4000000 in
set_option maxRecDepth 100000 in
theorem pl_X11_canBegin_96 {p : Program} {l : Launch} {e : Env} {s : State} {m : MethodId} {args : Array Value} {below : List Frame} {meth : Method} {c : Code} {A : Nat → Prop} {Q : State → Prop} {D : va_G} {cy : ClassId} {a_this a_s a_met : Nat} {w_refusals w_image w_read w_tape w_told w_best w_kept w_squares w_far w_queue : Value} {v_s : IA} {v_isImage : Int32} {v_taped : Int32} {v_at : Int32} {v_met : IA} {v_wrongHour : Int32} {v_wrongThing : Int32} {v_soonest : Int32} {v_bestSteps : Int32} {x2 : Int32} {x4 : Int32} {K : Int32 → IA → Prop} {E44 : Int32 → Prop} (ha : am p s m args c cX11_canBegin 6 RX11 wsX11_canBegin D cy A) (hr : rtI p l e { frames := 7, cells := 0, slots := 0, locals := 582 } s m args below meth c 0 0 Q cX11_canBegin D A (fun (u : IA) => (w_X11_canBegin cy a_this a_s a_met w_refusals w_image w_read w_tape w_told w_best w_kept w_squares w_far w_queue u v_isImage v_taped v_at v_met v_wrongHour v_wrongThing v_soonest v_bestSteps)) (fun (r : Int32) (u : IA) => nz r ∧ K r u)) (hE44 : ∀ (x3' : Int32) (H : Heap) (locs : List Loc) (ls : Array Slot), E44 x3' → wd D A s.heap (w_X11_canBegin cy a_this a_s a_met w_refusals w_image w_read w_tape w_told w_best w_kept w_squares w_far w_queue v_s v_isImage v_taped v_at v_met v_wrongHour v_wrongThing v_soonest v_bestSteps) H locs → lv_has ls 6 [(0, .ref a_this), (2, .int x2), (3, .int x3')] → W p l e { frames := 7, cells := 0, slots := 0, locals := 582 } s m args below meth c H locs 0 0 Q (F0 m 44 ls [])) {x3 : Int32} {t0 : Int32} {H : Heap} {locs : List Loc} {ls : Array Slot} : wp_X11_canBegin_96 x2 x4 v_s v_met E44 K x3 t0 → wd D A s.heap (w_X11_canBegin cy a_this a_s a_met w_refusals w_image w_read w_tape w_told w_best w_kept w_squares w_far w_queue v_s v_isImage v_taped v_at v_met v_wrongHour v_wrongThing v_soonest v_bestSteps) H locs → lv_has ls 6 [(0, .ref a_this), (2, .int x2), (3, .int x3), (4, .int x4)] → W p l e { frames := 7, cells := 0, slots := 0, locals := 582 } s m args below meth c H locs 0 0 Q (F0 m 96 ls [.int t0]) := by
  have hx := ha.1
  have hb := ha.2.1
  intro h hw hl
  have h : wp_X11_isWrong x2 (4 : Int32) v_s (fun (r10 : Int32) => (r10 = 0 → wp_X11_isWrong x2 (5 : Int32) v_s (fun (r12 : Int32) => (r12 = 0 → wp_X11_isWrong x2 (1 : Int32) v_s (fun (r14 : Int32) => (r14 = 0 → wp_X11_isShutIn x2 v_s (fun (r16 : Int32) => (r16 = 0 → wp_X11_failsAt (x2 + (1 : Int32)) x4 t0 v_s v_met (fun (r18 : Int32) => (0 ≤ r18 → E44 (x3 + (1 : Int32))) ∧ (¬ (0 ≤ r18) → K (1 : Int32) v_s))) ∧ (¬ (r16 = 0) → E44 (x3 + (1 : Int32))))) ∧ (¬ (r14 = 0) → E44 (x3 + (1 : Int32))))) ∧ (¬ (r12 = 0) → E44 (x3 + (1 : Int32))))) ∧ (¬ (r10 = 0) → E44 (x3 + (1 : Int32)))) := h
  refine lv_istore (lv' := [(5, .int t0), (0, .ref a_this), (2, .int x2), (3, .int x3), (4, .int x4)]) hx hb dX11_canBegin_96 hl (by decide) rfl (fun ls hl => ?_)
  refine lv_aload_n hx hb dX11_canBegin_98 rfl (lv_at hl 1 rfl) ?_
  refine lv_iload_n hx hb dX11_canBegin_99 rfl (lv_at hl 2 rfl) ?_
  refine lv_iconst (v := (4 : Int32)) hx hb dX11_canBegin_100 (by decide) ?_
  refine g_cvi (rm := { frames := 6, cells := 0, slots := 0, locals := 496 }) (wn := (fun (u : Unit) => (w_X11_canBegin cy a_this a_s a_met w_refusals w_image w_read w_tape w_told w_best w_kept w_squares w_far w_queue v_s v_isImage v_taped v_at v_met v_wrongHour v_wrongThing v_soonest v_bestSteps))) (As := [.int x2, .int (4 : Int32)]) ha hw hl.1 (c_X11_isWrong (cy := cy)) (cwV 2 ha.2.2.2.2.1 gX11_canBegin_X11_isWrong rfl rfl rfl hq_X11_isWrong ⟨Nat.le_of_ble_eq_true rfl, Nat.le_of_ble_eq_true rfl⟩) [0, 1] [2] [1, 2, 0] rfl rfl rfl rfl (by decide) rfl (fun _ => rfl) rfl rfl h rfl rfl (Nat.le_of_ble_eq_true rfl) dX11_canBegin_101 ⟨Nat.le_refl _, Nat.le_refl _⟩ (fun r10 u H locs h hw => ?_)
  have hw : wd D A s.heap (w_X11_canBegin cy a_this a_s a_met w_refusals w_image w_read w_tape w_told w_best w_kept w_squares w_far w_queue v_s v_isImage v_taped v_at v_met v_wrongHour v_wrongThing v_soonest v_bestSteps) H locs := hw
  obtain ⟨zr10, h⟩ := h
  try dsimp only at h
  refine lv_if_ne (tgt := 149) hx hb dX11_canBegin_104 (by decide) (fun c11 => ?_) (fun c11 => ?_)
  · have h := h.2 c11
    refine lv_iinc (v := x3 + (1 : Int32)) (lv' := [(3, .int (x3 + (1 : Int32))), (5, .int t0), (0, .ref a_this), (2, .int x2), (4, .int x4)]) hx hb dX11_canBegin_149 hl (k := 3) rfl rfl (by decide) rfl (fun ls hl => ?_)
    refine lv_goto (tgt := 44) hx hb dX11_canBegin_152 (by decide) ?_
    exact hE44 _ _ _ _ h hw (lv_sub hl [2, 3, 0] rfl)
  · have h := h.1 c11
    refine lv_aload_n hx hb dX11_canBegin_107 rfl (lv_at hl 1 rfl) ?_
    refine lv_iload_n hx hb dX11_canBegin_108 rfl (lv_at hl 2 rfl) ?_
    refine lv_iconst (v := (5 : Int32)) hx hb dX11_canBegin_109 (by decide) ?_
    refine g_cvi (rm := { frames := 6, cells := 0, slots := 0, locals := 496 }) (wn := (fun (u : Unit) => (w_X11_canBegin cy a_this a_s a_met w_refusals w_image w_read w_tape w_told w_best w_kept w_squares w_far w_queue v_s v_isImage v_taped v_at v_met v_wrongHour v_wrongThing v_soonest v_bestSteps))) (As := [.int x2, .int (5 : Int32)]) ha hw hl.1 (c_X11_isWrong (cy := cy)) (cwV 2 ha.2.2.2.2.1 gX11_canBegin_X11_isWrong rfl rfl rfl hq_X11_isWrong ⟨Nat.le_of_ble_eq_true rfl, Nat.le_of_ble_eq_true rfl⟩) [0, 1] [2] [1, 2, 0] rfl rfl rfl rfl (by decide) rfl (fun _ => rfl) rfl rfl h rfl rfl (Nat.le_of_ble_eq_true rfl) dX11_canBegin_110 ⟨Nat.le_refl _, Nat.le_refl _⟩ (fun r12 u H locs h hw => ?_)
    have hw : wd D A s.heap (w_X11_canBegin cy a_this a_s a_met w_refusals w_image w_read w_tape w_told w_best w_kept w_squares w_far w_queue v_s v_isImage v_taped v_at v_met v_wrongHour v_wrongThing v_soonest v_bestSteps) H locs := hw
    obtain ⟨zr12, h⟩ := h
    try dsimp only at h
    refine lv_if_ne (tgt := 149) hx hb dX11_canBegin_113 (by decide) (fun c13 => ?_) (fun c13 => ?_)
    · have h := h.2 c13
      refine lv_iinc (v := x3 + (1 : Int32)) (lv' := [(3, .int (x3 + (1 : Int32))), (5, .int t0), (0, .ref a_this), (2, .int x2), (4, .int x4)]) hx hb dX11_canBegin_149 hl (k := 3) rfl rfl (by decide) rfl (fun ls hl => ?_)
      refine lv_goto (tgt := 44) hx hb dX11_canBegin_152 (by decide) ?_
      exact hE44 _ _ _ _ h hw (lv_sub hl [2, 3, 0] rfl)
    · have h := h.1 c13
      refine lv_aload_n hx hb dX11_canBegin_116 rfl (lv_at hl 1 rfl) ?_
      refine lv_iload_n hx hb dX11_canBegin_117 rfl (lv_at hl 2 rfl) ?_
      refine lv_iconst (v := (1 : Int32)) hx hb dX11_canBegin_118 (by decide) ?_
      refine g_cvi (rm := { frames := 6, cells := 0, slots := 0, locals := 496 }) (wn := (fun (u : Unit) => (w_X11_canBegin cy a_this a_s a_met w_refusals w_image w_read w_tape w_told w_best w_kept w_squares w_far w_queue v_s v_isImage v_taped v_at v_met v_wrongHour v_wrongThing v_soonest v_bestSteps))) (As := [.int x2, .int (1 : Int32)]) ha hw hl.1 (c_X11_isWrong (cy := cy)) (cwV 2 ha.2.2.2.2.1 gX11_canBegin_X11_isWrong rfl rfl rfl hq_X11_isWrong ⟨Nat.le_of_ble_eq_true rfl, Nat.le_of_ble_eq_true rfl⟩) [0, 1] [2] [1, 2, 0] rfl rfl rfl rfl (by decide) rfl (fun _ => rfl) rfl rfl h rfl rfl (Nat.le_of_ble_eq_true rfl) dX11_canBegin_119 ⟨Nat.le_refl _, Nat.le_refl _⟩ (fun r14 u H locs h hw => ?_)
      have hw : wd D A s.heap (w_X11_canBegin cy a_this a_s a_met w_refusals w_image w_read w_tape w_told w_best w_kept w_squares w_far w_queue v_s v_isImage v_taped v_at v_met v_wrongHour v_wrongThing v_soonest v_bestSteps) H locs := hw
      obtain ⟨zr14, h⟩ := h
      try dsimp only at h
      refine lv_if_ne (tgt := 149) hx hb dX11_canBegin_122 (by decide) (fun c15 => ?_) (fun c15 => ?_)
      · have h := h.2 c15
        refine lv_iinc (v := x3 + (1 : Int32)) (lv' := [(3, .int (x3 + (1 : Int32))), (5, .int t0), (0, .ref a_this), (2, .int x2), (4, .int x4)]) hx hb dX11_canBegin_149 hl (k := 3) rfl rfl (by decide) rfl (fun ls hl => ?_)
        refine lv_goto (tgt := 44) hx hb dX11_canBegin_152 (by decide) ?_
        exact hE44 _ _ _ _ h hw (lv_sub hl [2, 3, 0] rfl)
      · have h := h.1 c15
        refine lv_aload_n hx hb dX11_canBegin_125 rfl (lv_at hl 1 rfl) ?_
        refine lv_iload_n hx hb dX11_canBegin_126 rfl (lv_at hl 2 rfl) ?_
        refine g_cvi (rm := { frames := 5, cells := 0, slots := 0, locals := 411 }) (wn := (fun (u : Unit) => (w_X11_canBegin cy a_this a_s a_met w_refusals w_image w_read w_tape w_told w_best w_kept w_squares w_far w_queue v_s v_isImage v_taped v_at v_met v_wrongHour v_wrongThing v_soonest v_bestSteps))) (As := [.int x2]) ha hw hl.1 (c_X11_isShutIn (cy := cy)) (cwV 1 ha.2.2.2.2.1 gX11_canBegin_X11_isShutIn rfl rfl rfl hq_X11_isShutIn ⟨Nat.le_of_ble_eq_true rfl, Nat.le_of_ble_eq_true rfl⟩) [0, 1] [2] [1, 2, 0] rfl rfl rfl rfl (by decide) rfl (fun _ => rfl) rfl rfl h rfl rfl (Nat.le_of_ble_eq_true rfl) dX11_canBegin_127 ⟨Nat.le_refl _, Nat.le_refl _⟩ (fun r16 u H locs h hw => ?_)
        have hw : wd D A s.heap (w_X11_canBegin cy a_this a_s a_met w_refusals w_image w_read w_tape w_told w_best w_kept w_squares w_far w_queue v_s v_isImage v_taped v_at v_met v_wrongHour v_wrongThing v_soonest v_bestSteps) H locs := hw
        obtain ⟨zr16, h⟩ := h
        try dsimp only at h
        refine lv_if_ne (tgt := 149) hx hb dX11_canBegin_130 (by decide) (fun c17 => ?_) (fun c17 => ?_)
        · have h := h.2 c17
          refine lv_iinc (v := x3 + (1 : Int32)) (lv' := [(3, .int (x3 + (1 : Int32))), (5, .int t0), (0, .ref a_this), (2, .int x2), (4, .int x4)]) hx hb dX11_canBegin_149 hl (k := 3) rfl rfl (by decide) rfl (fun ls hl => ?_)
          refine lv_goto (tgt := 44) hx hb dX11_canBegin_152 (by decide) ?_
          exact hE44 _ _ _ _ h hw (lv_sub hl [2, 3, 0] rfl)
        · have h := h.1 c17
          refine lv_aload_n hx hb dX11_canBegin_133 rfl (lv_at hl 1 rfl) ?_
          refine lv_iload_n hx hb dX11_canBegin_134 rfl (lv_at hl 2 rfl) ?_
          refine lv_iconst (v := (1 : Int32)) hx hb dX11_canBegin_135 (by decide) ?_
          refine lv_iadd hx hb dX11_canBegin_136 ?_
          refine lv_iload hx hb dX11_canBegin_137 (lv_at hl 4 rfl) ?_
          refine lv_iload hx hb dX11_canBegin_139 (lv_at hl 0 rfl) ?_
          refine g_cvi (rm := { frames := 4, cells := 0, slots := 0, locals := 324 }) (wn := (fun (u : Unit) => (w_X11_canBegin cy a_this a_s a_met w_refusals w_image w_read w_tape w_told w_best w_kept w_squares w_far w_queue v_s v_isImage v_taped v_at v_met v_wrongHour v_wrongThing v_soonest v_bestSteps))) (As := [.int (x2 + (1 : Int32)), .int x4, .int t0]) ha hw hl.1 (c_X11_failsAt (cy := cy)) (cwV 3 ha.2.2.2.2.1 gX11_canBegin_X11_failsAt rfl rfl rfl hq_X11_failsAt ⟨Nat.le_of_ble_eq_true rfl, Nat.le_of_ble_eq_true rfl⟩) [0, 1, 2] [] [0, 1, 2] rfl rfl rfl rfl (by decide) rfl (fun _ => rfl) rfl rfl h rfl rfl (Nat.le_of_ble_eq_true rfl) dX11_canBegin_141 ⟨Nat.le_refl _, Nat.le_refl _⟩ (fun r18 u H locs h hw => ?_)
          have hw : wd D A s.heap (w_X11_canBegin cy a_this a_s a_met w_refusals w_image w_read w_tape w_told w_best w_kept w_squares w_far w_queue v_s v_isImage v_taped v_at v_met v_wrongHour v_wrongThing v_soonest v_bestSteps) H locs := hw
          try dsimp only at h
          refine lv_if_ge (tgt := 149) hx hb dX11_canBegin_144 (by decide) (fun c19 => ?_) (fun c19 => ?_)
          · have h := h.1 c19
            refine lv_iinc (v := x3 + (1 : Int32)) (lv' := [(3, .int (x3 + (1 : Int32))), (5, .int t0), (0, .ref a_this), (2, .int x2), (4, .int x4)]) hx hb dX11_canBegin_149 hl (k := 3) rfl rfl (by decide) rfl (fun ls hl => ?_)
            refine lv_goto (tgt := 44) hx hb dX11_canBegin_152 (by decide) ?_
            exact hE44 _ _ _ _ h hw (lv_sub hl [2, 3, 0] rfl)
          · have h := h.2 c19
            refine lv_iconst (v := (1 : Int32)) hx hb dX11_canBegin_147 (by decide) ?_
            exact hr _ _ (v_s) _ _ _ dX11_canBegin_148 ⟨nz1, h⟩ hw
def wp_X11_canBegin_73 (x2 : Int32) (v_s : IA) (v_met : IA) (E44 : Int32 → Prop) (K : Int32 → IA → Prop) (x3 : Int32) (t0 : Int32) : Prop := (x2 = 0 → wp_X11_canBegin_96 x2 t0 v_s v_met (fun (x3_21 : Int32) => E44 x3_21) K x3 (99 : Int32)) ∧ (¬ (x2 = 0) → wp_X11_endOf x2 v_s (fun (r9 : Int32) => wp_X11_canBegin_96 x2 t0 v_s v_met (fun (x3_20 : Int32) => E44 x3_20) K x3 (r9 + (v_s (4 : Int32).toNatClampNeg))))
set_option maxHeartbeats 4000000 in
set_option maxRecDepth 100000 in
theorem pl_X11_canBegin_73 {p : Program} {l : Launch} {e : Env} {s : State} {m : MethodId} {args : Array Value} {below : List Frame} {meth : Method} {c : Code} {A : Nat → Prop} {Q : State → Prop} {D : va_G} {cy : ClassId} {a_this a_s a_met : Nat} {w_refusals w_image w_read w_tape w_told w_best w_kept w_squares w_far w_queue : Value} {v_s : IA} {v_isImage : Int32} {v_taped : Int32} {v_at : Int32} {v_met : IA} {v_wrongHour : Int32} {v_wrongThing : Int32} {v_soonest : Int32} {v_bestSteps : Int32} {x2 : Int32} {K : Int32 → IA → Prop} {E44 : Int32 → Prop} (ha : am p s m args c cX11_canBegin 6 RX11 wsX11_canBegin D cy A) (hr : rtI p l e { frames := 7, cells := 0, slots := 0, locals := 582 } s m args below meth c 0 0 Q cX11_canBegin D A (fun (u : IA) => (w_X11_canBegin cy a_this a_s a_met w_refusals w_image w_read w_tape w_told w_best w_kept w_squares w_far w_queue u v_isImage v_taped v_at v_met v_wrongHour v_wrongThing v_soonest v_bestSteps)) (fun (r : Int32) (u : IA) => nz r ∧ K r u)) (hE44 : ∀ (x3' : Int32) (H : Heap) (locs : List Loc) (ls : Array Slot), E44 x3' → wd D A s.heap (w_X11_canBegin cy a_this a_s a_met w_refusals w_image w_read w_tape w_told w_best w_kept w_squares w_far w_queue v_s v_isImage v_taped v_at v_met v_wrongHour v_wrongThing v_soonest v_bestSteps) H locs → lv_has ls 6 [(0, .ref a_this), (2, .int x2), (3, .int x3')] → W p l e { frames := 7, cells := 0, slots := 0, locals := 582 } s m args below meth c H locs 0 0 Q (F0 m 44 ls [])) {x3 : Int32} {t0 : Int32} {H : Heap} {locs : List Loc} {ls : Array Slot} : wp_X11_canBegin_73 x2 v_s v_met E44 K x3 t0 → wd D A s.heap (w_X11_canBegin cy a_this a_s a_met w_refusals w_image w_read w_tape w_told w_best w_kept w_squares w_far w_queue v_s v_isImage v_taped v_at v_met v_wrongHour v_wrongThing v_soonest v_bestSteps) H locs → lv_has ls 6 [(0, .ref a_this), (2, .int x2), (3, .int x3)] → W p l e { frames := 7, cells := 0, slots := 0, locals := 582 } s m args below meth c H locs 0 0 Q (F0 m 73 ls [.int t0]) := by
  have hx := ha.1
  have hb := ha.2.1
  intro h hw hl
  have h : (x2 = 0 → wp_X11_canBegin_96 x2 t0 v_s v_met (fun (x3_21 : Int32) => E44 x3_21) K x3 (99 : Int32)) ∧ (¬ (x2 = 0) → wp_X11_endOf x2 v_s (fun (r9 : Int32) => wp_X11_canBegin_96 x2 t0 v_s v_met (fun (x3_20 : Int32) => E44 x3_20) K x3 (r9 + (v_s (4 : Int32).toNatClampNeg)))) := h
  refine lv_istore (lv' := [(4, .int t0), (0, .ref a_this), (2, .int x2), (3, .int x3)]) hx hb dX11_canBegin_73 hl (by decide) rfl (fun ls hl => ?_)
  refine lv_iload_n hx hb dX11_canBegin_75 rfl (lv_at hl 2 rfl) ?_
  refine lv_if_ne (tgt := 84) hx hb dX11_canBegin_76 (by decide) (fun c8 => ?_) (fun c8 => ?_)
  · have h := h.2 c8
    refine lv_aload_n hx hb dX11_canBegin_84 rfl (lv_at hl 1 rfl) ?_
    refine lv_iload_n hx hb dX11_canBegin_85 rfl (lv_at hl 2 rfl) ?_
    refine g_cvi (rm := { frames := 2, cells := 0, slots := 0, locals := 149 }) (wn := (fun (u : Unit) => (w_X11_canBegin cy a_this a_s a_met w_refusals w_image w_read w_tape w_told w_best w_kept w_squares w_far w_queue v_s v_isImage v_taped v_at v_met v_wrongHour v_wrongThing v_soonest v_bestSteps))) (As := [.int x2]) ha hw hl.1 (c_X11_endOf (cy := cy)) (cwV 1 ha.2.2.2.2.1 gX11_canBegin_X11_endOf rfl rfl rfl hq_X11_endOf ⟨Nat.le_of_ble_eq_true rfl, Nat.le_of_ble_eq_true rfl⟩) [0, 1] [2] [1, 2, 0] rfl rfl rfl rfl (by decide) rfl (fun _ => rfl) rfl rfl h rfl rfl (Nat.le_of_ble_eq_true rfl) dX11_canBegin_86 ⟨Nat.le_refl _, Nat.le_refl _⟩ (fun r9 u H locs h hw => ?_)
    have hw : wd D A s.heap (w_X11_canBegin cy a_this a_s a_met w_refusals w_image w_read w_tape w_told w_best w_kept w_squares w_far w_queue v_s v_isImage v_taped v_at v_met v_wrongHour v_wrongThing v_soonest v_bestSteps) H locs := hw
    try dsimp only at h
    refine lv_aload_n hx hb dX11_canBegin_89 rfl (lv_at hl 1 rfl) ?_
    refine g_get (ci := 11) ha hw 0 1 rfl hi_X11_canBegin_11 (by decide) (List.mem_of_getElem? (i := 1) rfl) rfl rfl dX11_canBegin_90 ?_
    refine lv_iconst (v := (4 : Int32)) hx hb dX11_canBegin_93 (by decide) ?_
    refine g_ald ha hw 1 rfl (vp_in_iff.mpr (by decide)) dX11_canBegin_94 ?_
    refine lv_iadd hx hb dX11_canBegin_95 ?_
    refine pl_X11_canBegin_96 ha hr ?_ h hw (lv_sub hl [1, 2, 3, 0] rfl)
    · intro x3_20 H locs ls h hw hl
      try dsimp only at h
      exact hE44 _ _ _ _ h hw (lv_sub hl [0, 1, 2] rfl)
  · have h := h.1 c8
    refine lv_bipush (v := (99 : Int32)) hx hb dX11_canBegin_79 (by decide) ?_
    refine lv_goto (tgt := 96) hx hb dX11_canBegin_81 (by decide) ?_
    refine pl_X11_canBegin_96 ha hr ?_ h hw (lv_sub hl [1, 2, 3, 0] rfl)
    · intro x3_21 H locs ls h hw hl
      try dsimp only at h
      exact hE44 _ _ _ _ h hw (lv_sub hl [0, 1, 2] rfl)
def wp_X11_canBegin_44 (x2 : Int32) (v_met : IA) (K : Int32 → IA → Prop) : Nat → Int32 → IA → Prop
  | 0, _, _ => False
  | n + 1, x3, v_s => ((60 : Int32) < x3 → K (0 : Int32) (upd v_s (3 : Int32).toNatClampNeg x2)) ∧ (¬ ((60 : Int32) < x3) → vp_in (((77 : Int32) + ((2 : Int32) * x2)) + (1 : Int32)) 120 ∧ ((x2 = 0 → wp_X11_canBegin_73 x2 (upd v_s (((77 : Int32) + ((2 : Int32) * x2)) + (1 : Int32)).toNatClampNeg x3) v_met (fun (x3_23 : Int32) => wp_X11_canBegin_44 x2 v_met K n x3_23 (upd v_s (((77 : Int32) + ((2 : Int32) * x2)) + (1 : Int32)).toNatClampNeg x3)) K x3 (0 : Int32)) ∧ (¬ (x2 = 0) → wp_X11_canBegin_73 x2 (upd v_s (((77 : Int32) + ((2 : Int32) * x2)) + (1 : Int32)).toNatClampNeg x3) v_met (fun (x3_22 : Int32) => wp_X11_canBegin_44 x2 v_met K n x3_22 (upd v_s (((77 : Int32) + ((2 : Int32) * x2)) + (1 : Int32)).toNatClampNeg x3)) K x3 x3)))
set_option maxHeartbeats 4000000 in
set_option maxRecDepth 100000 in
theorem pl_X11_canBegin_44 {p : Program} {l : Launch} {e : Env} {s : State} {m : MethodId} {args : Array Value} {below : List Frame} {meth : Method} {c : Code} {A : Nat → Prop} {Q : State → Prop} {D : va_G} {cy : ClassId} {a_this a_s a_met : Nat} {w_refusals w_image w_read w_tape w_told w_best w_kept w_squares w_far w_queue : Value} {v_isImage : Int32} {v_taped : Int32} {v_at : Int32} {v_met : IA} {v_wrongHour : Int32} {v_wrongThing : Int32} {v_soonest : Int32} {v_bestSteps : Int32} {x2 : Int32} {K : Int32 → IA → Prop} (ha : am p s m args c cX11_canBegin 6 RX11 wsX11_canBegin D cy A) (hr : rtI p l e { frames := 7, cells := 0, slots := 0, locals := 582 } s m args below meth c 0 0 Q cX11_canBegin D A (fun (u : IA) => (w_X11_canBegin cy a_this a_s a_met w_refusals w_image w_read w_tape w_told w_best w_kept w_squares w_far w_queue u v_isImage v_taped v_at v_met v_wrongHour v_wrongThing v_soonest v_bestSteps)) (fun (r : Int32) (u : IA) => nz r ∧ K r u)) : ∀ (n : Nat) (x3 : Int32) (v_s : IA) (H : Heap) (locs : List Loc) (ls : Array Slot), wp_X11_canBegin_44 x2 v_met K n x3 v_s → wd D A s.heap (w_X11_canBegin cy a_this a_s a_met w_refusals w_image w_read w_tape w_told w_best w_kept w_squares w_far w_queue v_s v_isImage v_taped v_at v_met v_wrongHour v_wrongThing v_soonest v_bestSteps) H locs → lv_has ls 6 [(0, .ref a_this), (2, .int x2), (3, .int x3)] → W p l e { frames := 7, cells := 0, slots := 0, locals := 582 } s m args below meth c H locs 0 0 Q (F0 m 44 ls []) := by
  have hx := ha.1
  have hb := ha.2.1
  intro n
  induction n with
  | zero => exact fun _ _ _ _ _ h _ _ => False.elim h
  | succ n ih =>
    intro x3 v_s H locs ls h hw hl
    have h : ((60 : Int32) < x3 → K (0 : Int32) (upd v_s (3 : Int32).toNatClampNeg x2)) ∧ (¬ ((60 : Int32) < x3) → vp_in (((77 : Int32) + ((2 : Int32) * x2)) + (1 : Int32)) 120 ∧ ((x2 = 0 → wp_X11_canBegin_73 x2 (upd v_s (((77 : Int32) + ((2 : Int32) * x2)) + (1 : Int32)).toNatClampNeg x3) v_met (fun (x3_23 : Int32) => wp_X11_canBegin_44 x2 v_met K n x3_23 (upd v_s (((77 : Int32) + ((2 : Int32) * x2)) + (1 : Int32)).toNatClampNeg x3)) K x3 (0 : Int32)) ∧ (¬ (x2 = 0) → wp_X11_canBegin_73 x2 (upd v_s (((77 : Int32) + ((2 : Int32) * x2)) + (1 : Int32)).toNatClampNeg x3) v_met (fun (x3_22 : Int32) => wp_X11_canBegin_44 x2 v_met K n x3_22 (upd v_s (((77 : Int32) + ((2 : Int32) * x2)) + (1 : Int32)).toNatClampNeg x3)) K x3 x3))) := h
    refine lv_iload_n hx hb dX11_canBegin_44 rfl (lv_at hl 2 rfl) ?_
    refine lv_bipush (v := (60 : Int32)) hx hb dX11_canBegin_45 (by decide) ?_
    refine lv_icmp_gt (tgt := 155) hx hb dX11_canBegin_47 (by decide) (fun c5 => ?_) (fun c5 => ?_)
    · have h := h.1 c5
      refine lv_aload_n hx hb dX11_canBegin_155 rfl (lv_at hl 0 rfl) ?_
      refine g_get (ci := 11) ha hw 0 1 rfl hi_X11_canBegin_11 (by decide) (List.mem_of_getElem? (i := 1) rfl) rfl rfl dX11_canBegin_156 ?_
      refine lv_iconst (v := (3 : Int32)) hx hb dX11_canBegin_159 (by decide) ?_
      refine lv_iload_n hx hb dX11_canBegin_160 rfl (lv_at hl 1 rfl) ?_
      refine g_ast (wn := (w_X11_canBegin cy a_this a_s a_met w_refusals w_image w_read w_tape w_told w_best w_kept w_squares w_far w_queue (upd v_s (3 : Int32).toNatClampNeg x2) v_isImage v_taped v_at v_met v_wrongHour v_wrongThing v_soonest v_bestSteps)) ha hw 1 rfl (vp_in_iff.mpr (by decide)) rfl dX11_canBegin_161 (fun H locs hw => ?_)
      refine lv_iconst (v := (0 : Int32)) hx hb dX11_canBegin_162 (by decide) ?_
      exact hr _ _ (upd v_s (3 : Int32).toNatClampNeg x2) _ _ _ dX11_canBegin_163 ⟨nz0, h⟩ hw
    · have h := h.2 c5
      refine lv_aload_n hx hb dX11_canBegin_50 rfl (lv_at hl 0 rfl) ?_
      refine g_get (ci := 11) ha hw 0 1 rfl hi_X11_canBegin_11 (by decide) (List.mem_of_getElem? (i := 1) rfl) rfl rfl dX11_canBegin_51 ?_
      refine lv_bipush (v := (77 : Int32)) hx hb dX11_canBegin_54 (by decide) ?_
      refine lv_iconst (v := (2 : Int32)) hx hb dX11_canBegin_56 (by decide) ?_
      refine lv_iload_n hx hb dX11_canBegin_57 rfl (lv_at hl 1 rfl) ?_
      refine lv_imul hx hb dX11_canBegin_58 ?_
      refine lv_iadd hx hb dX11_canBegin_59 ?_
      refine lv_iconst (v := (1 : Int32)) hx hb dX11_canBegin_60 (by decide) ?_
      refine lv_iadd hx hb dX11_canBegin_61 ?_
      refine lv_iload_n hx hb dX11_canBegin_62 rfl (lv_at hl 2 rfl) ?_
      obtain ⟨z6, h⟩ := h
      refine g_ast (wn := (w_X11_canBegin cy a_this a_s a_met w_refusals w_image w_read w_tape w_told w_best w_kept w_squares w_far w_queue (upd v_s (((77 : Int32) + ((2 : Int32) * x2)) + (1 : Int32)).toNatClampNeg x3) v_isImage v_taped v_at v_met v_wrongHour v_wrongThing v_soonest v_bestSteps)) ha hw 1 rfl z6 rfl dX11_canBegin_63 (fun H locs hw => ?_)
      refine lv_iload_n hx hb dX11_canBegin_64 rfl (lv_at hl 1 rfl) ?_
      refine lv_if_ne (tgt := 72) hx hb dX11_canBegin_65 (by decide) (fun c7 => ?_) (fun c7 => ?_)
      · have h := h.2 c7
        refine lv_iload_n hx hb dX11_canBegin_72 rfl (lv_at hl 2 rfl) ?_
        refine pl_X11_canBegin_73 ha hr ?_ h hw (lv_sub hl [0, 1, 2] rfl)
        · intro x3_22 H locs ls h hw hl
          try dsimp only at h
          exact ih _ _ _ _ _ h hw (lv_sub hl [0, 1, 2] rfl)
      · have h := h.1 c7
        refine lv_iconst (v := (0 : Int32)) hx hb dX11_canBegin_68 (by decide) ?_
        refine lv_goto (tgt := 73) hx hb dX11_canBegin_69 (by decide) ?_
        refine pl_X11_canBegin_73 ha hr ?_ h hw (lv_sub hl [0, 1, 2] rfl)
        · intro x3_23 H locs ls h hw hl
          try dsimp only at h
          exact ih _ _ _ _ _ h hw (lv_sub hl [0, 1, 2] rfl)
def wp_X11_canBegin (x1 : Int32) (v_s : IA) (v_met : IA) (K : Int32 → IA → Prop) : Prop := ∀ x2_1 : Int32, x2_1 = v_s (3 : Int32).toNatClampNeg → vp_in ((77 : Int32) + ((2 : Int32) * x2_1)) 120 ∧ ((x2_1 = 0 → ∃ n25 : Nat, wp_X11_canBegin_44 x2_1 v_met K n25 (0 : Int32) (upd (upd v_s ((77 : Int32) + ((2 : Int32) * x2_1)).toNatClampNeg x1) (3 : Int32).toNatClampNeg (x2_1 + (1 : Int32)))) ∧ (¬ (x2_1 = 0) → wp_X11_endOf (x2_1 - (1 : Int32)) (upd (upd v_s ((77 : Int32) + ((2 : Int32) * x2_1)).toNatClampNeg x1) (3 : Int32).toNatClampNeg (x2_1 + (1 : Int32))) (fun (r4 : Int32) => ∃ n24 : Nat, wp_X11_canBegin_44 x2_1 v_met K n24 r4 (upd (upd v_s ((77 : Int32) + ((2 : Int32) * x2_1)).toNatClampNeg x1) (3 : Int32).toNatClampNeg (x2_1 + (1 : Int32))))))
set_option maxHeartbeats 4000000 in
set_option maxRecDepth 100000 in
theorem c_X11_canBegin {l : Launch} {D : va_G} {cy : ClassId} {a_this a_s a_met : Nat} {w_refusals w_image w_read w_tape w_told w_best w_kept w_squares w_far w_queue : Value} {v_s : IA} {v_isImage : Int32} {v_taped : Int32} {v_at : Int32} {v_met : IA} {v_wrongHour : Int32} {v_wrongThing : Int32} {v_soonest : Int32} {v_bestSteps : Int32} {x1 : Int32} {K : Int32 → IA → Prop} : CtI l yX11_canBegin wsX11_canBegin { frames := 7, cells := 0, slots := 0, locals := 582 } 0 0 D cy [.ref a_this, .int x1] (w_X11_canBegin cy a_this a_s a_met w_refusals w_image w_read w_tape w_told w_best w_kept w_squares w_far w_queue v_s v_isImage v_taped v_at v_met v_wrongHour v_wrongThing v_soonest v_bestSteps) (wp_X11_canBegin x1 v_s v_met K) (fun (u : IA) => (w_X11_canBegin cy a_this a_s a_met w_refusals w_image w_read w_tape w_told w_best w_kept w_squares w_far w_queue u v_isImage v_taped v_at v_met v_wrongHour v_wrongThing v_soonest v_bestSteps)) (fun (r : Int32) (u : IA) => nz r ∧ K r u) := by
  refine CtI.mk (cc := cX11_canBegin) (nL := 6) (ty := .boolean) (by decide) rfl (Nat.le_of_ble_eq_true rfl) (fun r u h => h.1.nar) ?_
  intro p e s m args below meth c A Q ha hr _ h ls hl hw
  have ha : am p s m args c cX11_canBegin 6 RX11 wsX11_canBegin D cy A := ha
  have hx := ha.1
  have hb := ha.2.1
  have hl : lv_has ls 6 [(0, .ref a_this), (1, .int x1)] := hl
  have h : ∀ x2_1 : Int32, x2_1 = v_s (3 : Int32).toNatClampNeg → vp_in ((77 : Int32) + ((2 : Int32) * x2_1)) 120 ∧ ((x2_1 = 0 → ∃ n25 : Nat, wp_X11_canBegin_44 x2_1 v_met K n25 (0 : Int32) (upd (upd v_s ((77 : Int32) + ((2 : Int32) * x2_1)).toNatClampNeg x1) (3 : Int32).toNatClampNeg (x2_1 + (1 : Int32)))) ∧ (¬ (x2_1 = 0) → wp_X11_endOf (x2_1 - (1 : Int32)) (upd (upd v_s ((77 : Int32) + ((2 : Int32) * x2_1)).toNatClampNeg x1) (3 : Int32).toNatClampNeg (x2_1 + (1 : Int32))) (fun (r4 : Int32) => ∃ n24 : Nat, wp_X11_canBegin_44 x2_1 v_met K n24 r4 (upd (upd v_s ((77 : Int32) + ((2 : Int32) * x2_1)).toNatClampNeg x1) (3 : Int32).toNatClampNeg (x2_1 + (1 : Int32)))))) := h
  refine lv_aload_n hx hb dX11_canBegin_0 rfl (lv_at hl 0 rfl) ?_
  refine g_get (ci := 11) ha hw 0 1 rfl hi_X11_canBegin_11 (by decide) (List.mem_of_getElem? (i := 1) rfl) rfl rfl dX11_canBegin_1 ?_
  refine lv_iconst (v := (3 : Int32)) hx hb dX11_canBegin_4 (by decide) ?_
  refine g_ald ha hw 1 rfl (vp_in_iff.mpr (by decide)) dX11_canBegin_5 ?_
  refine lv_topi (fun x2_1 ex2_1 => ?_)
  have h := h x2_1 ex2_1
  refine lv_istore_n (lv' := [(2, .int x2_1), (0, .ref a_this), (1, .int x1)]) hx hb dX11_canBegin_6 rfl hl (by decide) rfl (fun ls hl => ?_)
  refine lv_aload_n hx hb dX11_canBegin_7 rfl (lv_at hl 1 rfl) ?_
  refine g_get (ci := 11) ha hw 0 1 rfl hi_X11_canBegin_11 (by decide) (List.mem_of_getElem? (i := 1) rfl) rfl rfl dX11_canBegin_8 ?_
  refine lv_bipush (v := (77 : Int32)) hx hb dX11_canBegin_11 (by decide) ?_
  refine lv_iconst (v := (2 : Int32)) hx hb dX11_canBegin_13 (by decide) ?_
  refine lv_iload_n hx hb dX11_canBegin_14 rfl (lv_at hl 0 rfl) ?_
  refine lv_imul hx hb dX11_canBegin_15 ?_
  refine lv_iadd hx hb dX11_canBegin_16 ?_
  refine lv_iload_n hx hb dX11_canBegin_17 rfl (lv_at hl 2 rfl) ?_
  obtain ⟨z2, h⟩ := h
  refine g_ast (wn := (w_X11_canBegin cy a_this a_s a_met w_refusals w_image w_read w_tape w_told w_best w_kept w_squares w_far w_queue (upd v_s ((77 : Int32) + ((2 : Int32) * x2_1)).toNatClampNeg x1) v_isImage v_taped v_at v_met v_wrongHour v_wrongThing v_soonest v_bestSteps)) ha hw 1 rfl z2 rfl dX11_canBegin_18 (fun H locs hw => ?_)
  refine lv_aload_n hx hb dX11_canBegin_19 rfl (lv_at hl 1 rfl) ?_
  refine g_get (ci := 11) ha hw 0 1 rfl hi_X11_canBegin_11 (by decide) (List.mem_of_getElem? (i := 1) rfl) rfl rfl dX11_canBegin_20 ?_
  refine lv_iconst (v := (3 : Int32)) hx hb dX11_canBegin_23 (by decide) ?_
  refine lv_iload_n hx hb dX11_canBegin_24 rfl (lv_at hl 0 rfl) ?_
  refine lv_iconst (v := (1 : Int32)) hx hb dX11_canBegin_25 (by decide) ?_
  refine lv_iadd hx hb dX11_canBegin_26 ?_
  refine g_ast (wn := (w_X11_canBegin cy a_this a_s a_met w_refusals w_image w_read w_tape w_told w_best w_kept w_squares w_far w_queue (upd (upd v_s ((77 : Int32) + ((2 : Int32) * x2_1)).toNatClampNeg x1) (3 : Int32).toNatClampNeg (x2_1 + (1 : Int32))) v_isImage v_taped v_at v_met v_wrongHour v_wrongThing v_soonest v_bestSteps)) ha hw 1 rfl (vp_in_iff.mpr (by decide)) rfl dX11_canBegin_27 (fun H locs hw => ?_)
  refine lv_iload_n hx hb dX11_canBegin_28 rfl (lv_at hl 0 rfl) ?_
  refine lv_if_ne (tgt := 36) hx hb dX11_canBegin_29 (by decide) (fun c3 => ?_) (fun c3 => ?_)
  · have h := h.2 c3
    refine lv_aload_n hx hb dX11_canBegin_36 rfl (lv_at hl 1 rfl) ?_
    refine lv_iload_n hx hb dX11_canBegin_37 rfl (lv_at hl 0 rfl) ?_
    refine lv_iconst (v := (1 : Int32)) hx hb dX11_canBegin_38 (by decide) ?_
    refine lv_isub hx hb dX11_canBegin_39 ?_
    refine g_cvi (rm := { frames := 2, cells := 0, slots := 0, locals := 149 }) (wn := (fun (u : Unit) => (w_X11_canBegin cy a_this a_s a_met w_refusals w_image w_read w_tape w_told w_best w_kept w_squares w_far w_queue (upd (upd v_s ((77 : Int32) + ((2 : Int32) * x2_1)).toNatClampNeg x1) (3 : Int32).toNatClampNeg (x2_1 + (1 : Int32))) v_isImage v_taped v_at v_met v_wrongHour v_wrongThing v_soonest v_bestSteps))) (As := [.int (x2_1 - (1 : Int32))]) ha hw hl.1 (c_X11_endOf (cy := cy)) (cwV 1 ha.2.2.2.2.1 gX11_canBegin_X11_endOf rfl rfl rfl hq_X11_endOf ⟨Nat.le_of_ble_eq_true rfl, Nat.le_of_ble_eq_true rfl⟩) [0, 1] [2] [1, 2, 0] rfl rfl rfl rfl (by decide) rfl (fun _ => rfl) rfl rfl h rfl rfl (Nat.le_of_ble_eq_true rfl) dX11_canBegin_40 ⟨Nat.le_refl _, Nat.le_refl _⟩ (fun r4 u H locs h hw => ?_)
    have hw : wd D A s.heap (w_X11_canBegin cy a_this a_s a_met w_refusals w_image w_read w_tape w_told w_best w_kept w_squares w_far w_queue (upd (upd v_s ((77 : Int32) + ((2 : Int32) * x2_1)).toNatClampNeg x1) (3 : Int32).toNatClampNeg (x2_1 + (1 : Int32))) v_isImage v_taped v_at v_met v_wrongHour v_wrongThing v_soonest v_bestSteps) H locs := hw
    try dsimp only at h
    refine lv_istore_n (lv' := [(3, .int r4), (2, .int x2_1), (0, .ref a_this), (1, .int x1)]) hx hb dX11_canBegin_43 rfl hl (by decide) rfl (fun ls hl => ?_)
    obtain ⟨n9, h⟩ := h
    refine pl_X11_canBegin_44 ha hr n9 _ _ _ _ _ h hw (lv_sub hl [2, 1, 0] rfl)
  · have h := h.1 c3
    refine lv_iconst (v := (0 : Int32)) hx hb dX11_canBegin_32 (by decide) ?_
    refine lv_goto (tgt := 43) hx hb dX11_canBegin_33 (by decide) ?_
    refine lv_istore_n (lv' := [(3, .int (0 : Int32)), (2, .int x2_1), (0, .ref a_this), (1, .int x1)]) hx hb dX11_canBegin_43 rfl hl (by decide) rfl (fun ls hl => ?_)
    obtain ⟨n9, h⟩ := h
    refine pl_X11_canBegin_44 ha hr n9 _ _ _ _ _ h hw (lv_sub hl [2, 1, 0] rfl)
