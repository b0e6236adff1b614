theorem hq_X11_refuse : yX11_refuse.cls = RX11 ∧ yX11_refuse.cls ≠ "java/lang/invoke/MethodHandle" ∧ yX11_refuse.cls ≠ "java/lang/invoke/VarHandle" ∧ (parseMethodDescriptor yX11_refuse.desc).map (fun d => d.parameters.length) = some 1 := by decide +kernel
def w_X11_refuse (cy : ClassId) (a_this a_refusals : Nat) (w_s w_image w_read w_tape w_told w_met w_best w_kept w_squares w_far w_queue : Value) (v_refusals : IA) (v_isImage : Int32) (v_taped : Int32) (v_at : Int32) (v_wrongHour : Int32) (v_wrongThing : Int32) (v_soonest : Int32) (v_bestSteps : Int32) : va_W := [(a_this, .inr (11, [.ref a_refusals, w_s, w_image, w_read, .int v_isImage, w_tape, w_told, .int v_taped, .int v_at, w_met, .int v_wrongHour, .int v_wrongThing, w_best, w_kept, .int v_soonest, .int v_bestSteps, w_squares, w_far, w_queue])), (a_refusals, .inl (cy, 7, .inl v_refusals))]
theorem hi_X11_refuse_11 : ∀ w ∈ u_ws RX11 TX11 19, w ∈ wsX11_refuse := fun _ h => List.mem_cons_of_mem _ (List.mem_append_right _ h)
def wp_X11_refuse (x1 : Int32) (v_refusals : IA) (K : Int32 → IA → Prop) : Prop := vp_in (-x1) 7 ∧ (K x1 (upd v_refusals (-x1).toNatClampNeg ((v_refusals (-x1).toNatClampNeg) + (1 : Int32))))
set_option maxHeartbeats 4000000 in
set_option maxRecDepth 100000 in
theorem c_X11_refuse {l : Launch} {D : va_G} {cy : ClassId} {a_this a_refusals : Nat} {w_s w_image w_read w_tape w_told w_met w_best w_kept w_squares w_far w_queue : Value} {v_refusals : IA} {v_isImage : Int32} {v_taped : Int32} {v_at : Int32} {v_wrongHour : Int32} {v_wrongThing : Int32} {v_soonest : Int32} {v_bestSteps : Int32} {x1 : Int32} {K : Int32 → IA → Prop} : CtI l yX11_refuse wsX11_refuse { frames := 1, cells := 0, slots := 0, locals := 64 } 0 0 D cy [.ref a_this, .int x1] (w_X11_refuse cy a_this a_refusals w_s w_image w_read w_tape w_told w_met w_best w_kept w_squares w_far w_queue v_refusals v_isImage v_taped v_at v_wrongHour v_wrongThing v_soonest v_bestSteps) (wp_X11_refuse x1 v_refusals K) (fun (u : IA) => (w_X11_refuse cy a_this a_refusals w_s w_image w_read w_tape w_told w_met w_best w_kept w_squares w_far w_queue u v_isImage v_taped v_at v_wrongHour v_wrongThing v_soonest v_bestSteps)) (fun (r : Int32) (u : IA) => K r u) := by
  refine CtI.mk (cc := cX11_refuse) (nL := 2) (ty := .int) (by decide) rfl (Nat.le_of_ble_eq_true rfl) (fun r u h => rfl) ?_
  intro p e s m args below meth c A Q ha hr _ h ls hl hw
  have ha : am p s m args c cX11_refuse 2 RX11 wsX11_refuse D cy A := ha
  have hx := ha.1
  have hb := ha.2.1
  have hl : lv_has ls 2 [(0, .ref a_this), (1, .int x1)] := hl
  have h : vp_in (-x1) 7 ∧ (K x1 (upd v_refusals (-x1).toNatClampNeg ((v_refusals (-x1).toNatClampNeg) + (1 : Int32)))) := h
  refine lv_aload_n hx hb dX11_refuse_0 rfl (lv_at hl 0 rfl) ?_
  refine g_get (ci := 11) ha hw 0 0 rfl hi_X11_refuse_11 (by decide) (List.mem_of_getElem? (i := 1) rfl) rfl rfl dX11_refuse_1 ?_
  refine lv_iload_n hx hb dX11_refuse_4 rfl (lv_at hl 1 rfl) ?_
  refine lv_ineg hx hb dX11_refuse_5 ?_
  refine lv_dup2_11 hx hb dX11_refuse_6 rfl rfl ?_
  obtain ⟨z1, h⟩ := h
  refine g_ald ha hw 1 rfl z1 dX11_refuse_7 ?_
  refine lv_iconst (v := (1 : Int32)) hx hb dX11_refuse_8 (by decide) ?_
  refine lv_iadd hx hb dX11_refuse_9 ?_
  refine g_ast (wn := (w_X11_refuse cy a_this a_refusals w_s w_image w_read w_tape w_told w_met w_best w_kept w_squares w_far w_queue (upd v_refusals (-x1).toNatClampNeg ((v_refusals (-x1).toNatClampNeg) + (1 : Int32))) v_isImage v_taped v_at v_wrongHour v_wrongThing v_soonest v_bestSteps)) ha hw 1 rfl z1 rfl dX11_refuse_10 (fun H locs hw => ?_)
  refine lv_iload_n hx hb dX11_refuse_11 rfl (lv_at hl 1 rfl) ?_
  exact hr _ _ (upd v_refusals (-x1).toNatClampNeg ((v_refusals (-x1).toNatClampNeg) + (1 : Int32))) _ _ _ dX11_refuse_12 h hw
theorem hq_X11_isIn : yX11_isIn.cls ≠ "java/lang/invoke/MethodHandle" ∧ yX11_isIn.cls ≠ "java/lang/invoke/VarHandle" ∧ (parseMethodDescriptor yX11_isIn.desc).map (fun d => d.parameters.length) = some 2 := by decide +kernel
def w_X11_isIn (cy : ClassId) : va_W := []
def wp_X11_isIn (x0 : Int32) (x1 : Int32) (K : Int32 → Prop) : Prop := (x0 < 0 → K (0 : Int32)) ∧ (¬ (x0 < 0) → (x1 ≤ x0 → K (0 : Int32)) ∧ (¬ (x1 ≤ x0) → K (1 : Int32)))
set_option maxHeartbeats 4000000 in
set_option maxRecDepth 100000 in
theorem c_X11_isIn {l : Launch} {D : va_G} {cy : ClassId} {x0 : Int32} {x1 : Int32} {K : Int32 → Prop} : CtI l yX11_isIn wsX11_isIn { frames := 1, cells := 0, slots := 0, locals := 64 } 0 0 D cy [.int x0, .int x1] (w_X11_isIn cy) (wp_X11_isIn x0 x1 K) (fun (u : Unit) => (w_X11_isIn cy)) (fun (r : Int32) (u : Unit) => nz r ∧ K r) := by
  refine CtI.mk (cc := cX11_isIn) (nL := 2) (ty := .boolean) (by decide) rfl (Nat.le_of_ble_eq_true rfl) (fun r u h => h.1.nar) ?_
  intro p e s m args below meth c A Q ha hr _ h ls hl hw
  have ha : am p s m args c cX11_isIn 2 RX11 wsX11_isIn D cy A := ha
  have hx := ha.1
  have hb := ha.2.1
  have hl : lv_has ls 2 [(0, .int x0), (1, .int x1)] := hl
  have h : (x0 < 0 → K (0 : Int32)) ∧ (¬ (x0 < 0) → (x1 ≤ x0 → K (0 : Int32)) ∧ (¬ (x1 ≤ x0) → K (1 : Int32))) := h
  refine lv_iload_n hx hb dX11_isIn_0 rfl (lv_at hl 0 rfl) ?_
  refine lv_if_lt (tgt := 13) hx hb dX11_isIn_1 (by decide) (fun c1 => ?_) (fun c1 => ?_)
  · have h := h.1 c1
    refine lv_iconst (v := (0 : Int32)) hx hb dX11_isIn_13 (by decide) ?_
    exact hr _ _ () _ _ _ dX11_isIn_14 ⟨nz0, h⟩ hw
  · have h := h.2 c1
    refine lv_iload_n hx hb dX11_isIn_4 rfl (lv_at hl 0 rfl) ?_
    refine lv_iload_n hx hb dX11_isIn_5 rfl (lv_at hl 1 rfl) ?_
    refine lv_icmp_ge (tgt := 13) hx hb dX11_isIn_6 (by decide) (fun c2 => ?_) (fun c2 => ?_)
    · have h := h.1 c2
      refine lv_iconst (v := (0 : Int32)) hx hb dX11_isIn_13 (by decide) ?_
      exact hr _ _ () _ _ _ dX11_isIn_14 ⟨nz0, h⟩ hw
    · have h := h.2 c2
      refine lv_iconst (v := (1 : Int32)) hx hb dX11_isIn_9 (by decide) ?_
      refine lv_goto (tgt := 14) hx hb dX11_isIn_10 (by decide) ?_
      exact hr _ _ () _ _ _ dX11_isIn_14 ⟨nz1, h⟩ hw
theorem hq_X11_within : yX11_within.cls ≠ "java/lang/invoke/MethodHandle" ∧ yX11_within.cls ≠ "java/lang/invoke/VarHandle" ∧ (parseMethodDescriptor yX11_within.desc).map (fun d => d.parameters.length) = some 3 := by decide +kernel
def w_X11_within (cy : ClassId) : va_W := []
def wp_X11_within (x0 : Int32) (x1 : Int32) (x2 : Int32) (K : Int32 → Prop) : Prop := (x1 ≤ x0 → (x0 ≤ x2 → K (0 : Int32)) ∧ (¬ (x0 ≤ x2) → K (-6 : Int32))) ∧ (¬ (x1 ≤ x0) → K (-4 : Int32))
set_option maxHeartbeats 4000000 in
set_option maxRecDepth 100000 in
theorem c_X11_within {l : Launch} {D : va_G} {cy : ClassId} {x0 : Int32} {x1 : Int32} {x2 : Int32} {K : Int32 → Prop} : CtI l yX11_within wsX11_within { frames := 1, cells := 0, slots := 0, locals := 64 } 0 0 D cy [.int x0, .int x1, .int x2] (w_X11_within cy) (wp_X11_within x0 x1 x2 K) (fun (u : Unit) => (w_X11_within cy)) (fun (r : Int32) (u : Unit) => K r) := by
  refine CtI.mk (cc := cX11_within) (nL := 3) (ty := .int) (by decide) rfl (Nat.le_of_ble_eq_true rfl) (fun r u h => rfl) ?_
  intro p e s m args below meth c A Q ha hr _ h ls hl hw
  have ha : am p s m args c cX11_within 3 RX11 wsX11_within D cy A := ha
  have hx := ha.1
  have hb := ha.2.1
  have hl : lv_has ls 3 [(0, .int x0), (1, .int x1), (2, .int x2)] := hl
  have h : (x1 ≤ x0 → (x0 ≤ x2 → K (0 : Int32)) ∧ (¬ (x0 ≤ x2) → K (-6 : Int32))) ∧ (¬ (x1 ≤ x0) → K (-4 : Int32)) := h
  refine lv_iload_n hx hb dX11_within_0 rfl (lv_at hl 0 rfl) ?_
  refine lv_iload_n hx hb dX11_within_1 rfl (lv_at hl 1 rfl) ?_
  refine lv_icmp_ge (tgt := 10) hx hb dX11_within_2 (by decide) (fun c1 => ?_) (fun c1 => ?_)
  · have h := h.1 c1
    refine lv_iload_n hx hb dX11_within_10 rfl (lv_at hl 0 rfl) ?_
    refine lv_iload_n hx hb dX11_within_11 rfl (lv_at hl 2 rfl) ?_
    refine lv_icmp_le (tgt := 20) hx hb dX11_within_12 (by decide) (fun c2 => ?_) (fun c2 => ?_)
    · have h := h.1 c2
      refine lv_iconst (v := (0 : Int32)) hx hb dX11_within_20 (by decide) ?_
      exact hr _ _ () _ _ _ dX11_within_21 h hw
    · have h := h.2 c2
      refine lv_bipush (v := (-6 : Int32)) hx hb dX11_within_15 (by decide) ?_
      refine lv_goto (tgt := 21) hx hb dX11_within_17 (by decide) ?_
      exact hr _ _ () _ _ _ dX11_within_21 h hw
  · have h := h.2 c1
    refine lv_bipush (v := (-4 : Int32)) hx hb dX11_within_5 (by decide) ?_
    refine lv_goto (tgt := 21) hx hb dX11_within_7 (by decide) ?_
    exact hr _ _ () _ _ _ dX11_within_21 h hw
theorem hq_X11_isPlace : yX11_isPlace.cls = RX11 ∧ yX11_isPlace.cls ≠ "java/lang/invoke/MethodHandle" ∧ yX11_isPlace.cls ≠ "java/lang/invoke/VarHandle" ∧ (parseMethodDescriptor yX11_isPlace.desc).map (fun d => d.parameters.length) = some 1 := by decide +kernel
def w_X11_isPlace (cy : ClassId) (a_this a_s : Nat) (w_refusals w_image w_read w_tape w_told w_met w_best w_kept w_squares w_far w_queue : Value) (v_s : IA) (v_isImage : Int32) (v_taped : Int32) (v_at : Int32) (v_wrongHour : Int32) (v_wrongThing : Int32) (v_soonest : Int32) (v_bestSteps : Int32) : va_W := [(a_this, .inr (11, [w_refusals, .ref a_s, w_image, w_read, .int v_isImage, w_tape, w_told, .int v_taped, .int v_at, w_met, .int v_wrongHour, .int v_wrongThing, w_best, w_kept, .int v_soonest, .int v_bestSteps, w_squares, w_far, w_queue])), (a_s, .inl (cy, 120, .inl v_s))]
theorem hi_X11_isPlace_11 : ∀ w ∈ u_ws RX11 TX11 19, w ∈ wsX11_isPlace := fun _ h => List.mem_cons_of_mem _ (List.mem_append_right _ h)
def wp_X11_isPlace (x1 : Int32) (v_s : IA) (K : Int32 → Prop) : Prop := wp_X11_isIn x1 (v_s (0 : Int32).toNatClampNeg) (fun (r1 : Int32) => K r1)
set_option maxHeartbeats 4000000 in
set_option maxRecDepth 100000 in
theorem c_X11_isPlace {l : Launch} {D : va_G} {cy : ClassId} {a_this a_s : Nat} {w_refusals w_image w_read w_tape w_told w_met w_best w_kept w_squares w_far w_queue : Value} {v_s : IA} {v_isImage : Int32} {v_taped : Int32} {v_at : Int32} {v_wrongHour : Int32} {v_wrongThing : Int32} {v_soonest : Int32} {v_bestSteps : Int32} {x1 : Int32} {K : Int32 → Prop} : CtI l yX11_isPlace wsX11_isPlace { frames := 2, cells := 0, slots := 0, locals := 149 } 0 0 D cy [.ref a_this, .int x1] (w_X11_isPlace cy a_this a_s w_refusals w_image w_read w_tape w_told w_met w_best w_kept w_squares w_far w_queue v_s v_isImage v_taped v_at v_wrongHour v_wrongThing v_soonest v_bestSteps) (wp_X11_isPlace x1 v_s K) (fun (u : Unit) => (w_X11_isPlace cy a_this a_s w_refusals w_image w_read w_tape w_told w_met w_best w_kept w_squares w_far w_queue v_s v_isImage v_taped v_at v_wrongHour v_wrongThing v_soonest v_bestSteps)) (fun (r : Int32) (u : Unit) => nz r ∧ K r) := by
  refine CtI.mk (cc := cX11_isPlace) (nL := 2) (ty := .boolean) (by decide) rfl (Nat.le_of_ble_eq_true rfl) (fun r u h => h.1.nar) ?_
  intro p e s m args below meth c A Q ha hr _ h ls hl hw
  have ha : am p s m args c cX11_isPlace 2 RX11 wsX11_isPlace D cy A := ha
  have hx := ha.1
  have hb := ha.2.1
  have hl : lv_has ls 2 [(0, .ref a_this), (1, .int x1)] := hl
  have h : wp_X11_isIn x1 (v_s (0 : Int32).toNatClampNeg) (fun (r1 : Int32) => K r1) := h
  refine lv_iload_n hx hb dX11_isPlace_0 rfl (lv_at hl 1 rfl) ?_
  refine lv_aload_n hx hb dX11_isPlace_1 rfl (lv_at hl 0 rfl) ?_
  refine g_get (ci := 11) ha hw 0 1 rfl hi_X11_isPlace_11 (by decide) (List.mem_of_getElem? (i := 1) rfl) rfl rfl dX11_isPlace_2 ?_
  refine lv_iconst (v := (0 : Int32)) hx hb dX11_isPlace_5 (by decide) ?_
  refine g_ald ha hw 1 rfl (vp_in_iff.mpr (by decide)) dX11_isPlace_6 ?_
  refine g_csi (rm := { frames := 1, cells := 0, slots := 0, locals := 64 }) (wn := (fun (u : Unit) => (w_X11_isPlace cy a_this a_s w_refusals w_image w_read w_tape w_told w_met w_best w_kept w_squares w_far w_queue v_s v_isImage v_taped v_at v_wrongHour v_wrongThing v_soonest v_bestSteps))) (As := [.int x1, .int (v_s (0 : Int32).toNatClampNeg)]) ha hw hl.1 (c_X11_isIn (cy := cy)) (va_cwS 2 ha.2.2.2.2.1 gX11_isPlace_X11_isIn rfl rfl rfl hq_X11_isIn ⟨Nat.le_of_ble_eq_true rfl, Nat.le_of_ble_eq_true rfl⟩) [] [0, 1] [0, 1] rfl rfl rfl rfl (by decide) rfl (fun _ => rfl) h rfl rfl (Nat.le_of_ble_eq_true rfl) dX11_isPlace_7 ⟨Nat.le_refl _, Nat.le_refl _⟩ (fun r1 u H locs h hw => ?_)
  have hw : wd D A s.heap (w_X11_isPlace cy a_this a_s w_refusals w_image w_read w_tape w_told w_met w_best w_kept w_squares w_far w_queue v_s v_isImage v_taped v_at v_wrongHour v_wrongThing v_soonest v_bestSteps) H locs := hw
  obtain ⟨zr1, h⟩ := h
  try dsimp only at h
  exact hr _ _ () _ _ _ dX11_isPlace_10 ⟨zr1, h⟩ hw
theorem hq_X11_isRoom : yX11_isRoom.cls = RX11 ∧ yX11_isRoom.cls ≠ "java/lang/invoke/MethodHandle" ∧ yX11_isRoom.cls ≠ "java/lang/invoke/VarHandle" ∧ (parseMethodDescriptor yX11_isRoom.desc).map (fun d => d.parameters.length) = some 1 := by decide +kernel
def w_X11_isRoom (cy : ClassId) (a_this a_s : Nat) (w_refusals w_image w_read w_tape w_told w_met w_best w_kept w_squares w_far w_queue : Value) (v_s : IA) (v_isImage : Int32) (v_taped : Int32) (v_at : Int32) (v_wrongHour : Int32) (v_wrongThing : Int32) (v_soonest : Int32) (v_bestSteps : Int32) : va_W := [(a_this, .inr (11, [w_refusals, .ref a_s, w_image, w_read, .int v_isImage, w_tape, w_told, .int v_taped, .int v_at, w_met, .int v_wrongHour, .int v_wrongThing, w_best, w_kept, .int v_soonest, .int v_bestSteps, w_squares, w_far, w_queue])), (a_s, .inl (cy, 120, .inl v_s))]
def wp_X11_isRoom (x1 : Int32) (v_s : IA) (K : Int32 → Prop) : Prop := (x1 ≤ 0 → K (0 : Int32)) ∧ (¬ (x1 ≤ 0) → wp_X11_isPlace x1 v_s (fun (r2 : Int32) => (r2 = 0 → K (0 : Int32)) ∧ (¬ (r2 = 0) → K (1 : Int32))))
set_option maxHeartbeats 4000000 in
set_option maxRecDepth 100000 in
theorem c_X11_isRoom {l : Launch} {D : va_G} {cy : ClassId} {a_this a_s : Nat} {w_refusals w_image w_read w_tape w_told w_met w_best w_kept w_squares w_far w_queue : Value} {v_s : IA} {v_isImage : Int32} {v_taped : Int32} {v_at : Int32} {v_wrongHour : Int32} {v_wrongThing : Int32} {v_soonest : Int32} {v_bestSteps : Int32} {x1 : Int32} {K : Int32 → Prop} : CtI l yX11_isRoom wsX11_isRoom { frames := 3, cells := 0, slots := 0, locals := 234 } 0 0 D cy [.ref a_this, .int x1] (w_X11_isRoom cy a_this a_s w_refusals w_image w_read w_tape w_told w_met w_best w_kept w_squares w_far w_queue v_s v_isImage v_taped v_at v_wrongHour v_wrongThing v_soonest v_bestSteps) (wp_X11_isRoom x1 v_s K) (fun (u : Unit) => (w_X11_isRoom cy a_this a_s w_refusals w_image w_read w_tape w_told w_met w_best w_kept w_squares w_far w_queue v_s v_isImage v_taped v_at v_wrongHour v_wrongThing v_soonest v_bestSteps)) (fun (r : Int32) (u : Unit) => nz r ∧ K r) := by
  refine CtI.mk (cc := cX11_isRoom) (nL := 2) (ty := .boolean) (by decide) rfl (Nat.le_of_ble_eq_true rfl) (fun r u h => h.1.nar) ?_
  intro p e s m args below meth c A Q ha hr _ h ls hl hw
  have ha : am p s m args c cX11_isRoom 2 RX11 wsX11_isRoom D cy A := ha
  have hx := ha.1
  have hb := ha.2.1
  have hl : lv_has ls 2 [(0, .ref a_this), (1, .int x1)] := hl
  have h : (x1 ≤ 0 → K (0 : Int32)) ∧ (¬ (x1 ≤ 0) → wp_X11_isPlace x1 v_s (fun (r2 : Int32) => (r2 = 0 → K (0 : Int32)) ∧ (¬ (r2 = 0) → K (1 : Int32)))) := h
  refine lv_iload_n hx hb dX11_isRoom_0 rfl (lv_at hl 1 rfl) ?_
  refine lv_if_le (tgt := 16) hx hb dX11_isRoom_1 (by decide) (fun c1 => ?_) (fun c1 => ?_)
  · have h := h.1 c1
    refine lv_iconst (v := (0 : Int32)) hx hb dX11_isRoom_16 (by decide) ?_
    exact hr _ _ () _ _ _ dX11_isRoom_17 ⟨nz0, h⟩ hw
  · have h := h.2 c1
    refine lv_aload_n hx hb dX11_isRoom_4 rfl (lv_at hl 0 rfl) ?_
    refine lv_iload_n hx hb dX11_isRoom_5 rfl (lv_at hl 1 rfl) ?_
    refine g_cvi (rm := { frames := 2, cells := 0, slots := 0, locals := 149 }) (wn := (fun (u : Unit) => (w_X11_isRoom cy a_this a_s w_refusals w_image w_read w_tape w_told w_met w_best w_kept w_squares w_far w_queue v_s v_isImage v_taped v_at v_wrongHour v_wrongThing v_soonest v_bestSteps))) (As := [.int x1]) ha hw hl.1 (c_X11_isPlace (cy := cy)) (cwV 1 ha.2.2.2.2.1 gX11_isRoom_X11_isPlace rfl rfl rfl hq_X11_isPlace ⟨Nat.le_of_ble_eq_true rfl, Nat.le_of_ble_eq_true rfl⟩) [0, 1] [] [0, 1] rfl rfl rfl rfl (by decide) rfl (fun _ => rfl) rfl rfl h rfl rfl (Nat.le_of_ble_eq_true rfl) dX11_isRoom_6 ⟨Nat.le_refl _, Nat.le_refl _⟩ (fun r2 u H locs h hw => ?_)
    have hw : wd D A s.heap (w_X11_isRoom cy a_this a_s w_refusals w_image w_read w_tape w_told w_met w_best w_kept w_squares w_far w_queue v_s v_isImage v_taped v_at v_wrongHour v_wrongThing v_soonest v_bestSteps) H locs := hw
    obtain ⟨zr2, h⟩ := h
    try dsimp only at h
    refine lv_if_eq (tgt := 16) hx hb dX11_isRoom_9 (by decide) (fun c3 => ?_) (fun c3 => ?_)
    · have h := h.1 c3
      refine lv_iconst (v := (0 : Int32)) hx hb dX11_isRoom_16 (by decide) ?_
      exact hr _ _ () _ _ _ dX11_isRoom_17 ⟨nz0, h⟩ hw
    · have h := h.2 c3
      refine lv_iconst (v := (1 : Int32)) hx hb dX11_isRoom_12 (by decide) ?_
      refine lv_goto (tgt := 17) hx hb dX11_isRoom_13 (by decide) ?_
      exact hr _ _ () _ _ _ dX11_isRoom_17 ⟨nz1, h⟩ hw
theorem hq_X11_feed : yX11_feed.cls = RX11 ∧ yX11_feed.cls ≠ "java/lang/invoke/MethodHandle" ∧ yX11_feed.cls ≠ "java/lang/invoke/VarHandle" ∧ (parseMethodDescriptor yX11_feed.desc).map (fun d => d.parameters.length) = some 2 := by decide +kernel
def w_X11_feed (cy : ClassId) (a_this a_refusals a_tape : Nat) (w_s w_image w_read w_told w_met w_best w_kept w_squares w_far w_queue : Value) (v_refusals : IA) (v_isImage : Int32) (v_tape : IA) (v_taped : Int32) (v_at : Int32) (v_wrongHour : Int32) (v_wrongThing : Int32) (v_soonest : Int32) (v_bestSteps : Int32) : va_W := [(a_this, .inr (11, [.ref a_refusals, w_s, w_image, w_read, .int v_isImage, .ref a_tape, w_told, .int v_taped, .int v_at, w_met, .int v_wrongHour, .int v_wrongThing, w_best, w_kept, .int v_soonest, .int v_bestSteps, w_squares, w_far, w_queue])), (a_refusals, .inl (cy, 7, .inl v_refusals)), (a_tape, .inl (cy, 48, .inl v_tape))]
theorem hi_X11_feed_11 : ∀ w ∈ u_ws RX11 TX11 19, w ∈ wsX11_feed := fun _ h => List.mem_cons_of_mem _ (List.mem_append_right _ h)
def wp_X11_feed_29 (v_tape : IA) (v_taped : Int32) (K : Int32 → IA → IA → Int32 → Prop) (v_refusals : IA) : Prop := wp_X11_refuse (-6 : Int32) v_refusals (fun (r3 : Int32) (v_refusals_4 : IA) => K r3 v_refusals_4 v_tape v_taped)
set_option maxHeartbeats 4000000 in
set_option maxRecDepth 100000 in
theorem pl_X11_feed_29 {p : Program} {l : Launch} {e : Env} {s : State} {m : MethodId} {args : Array Value} {below : List Frame} {meth : Method} {c : Code} {A : Nat → Prop} {Q : State → Prop} {D : va_G} {cy : ClassId} {a_this a_refusals a_tape : Nat} {w_s w_image w_read w_told w_met w_best w_kept w_squares w_far w_queue : Value} {v_isImage : Int32} {v_tape : IA} {v_taped : Int32} {v_at : Int32} {v_wrongHour : Int32} {v_wrongThing : Int32} {v_soonest : Int32} {v_bestSteps : Int32} {K : Int32 → IA → IA → Int32 → Prop} (ha : am p s m args c cX11_feed 5 RX11 wsX11_feed D cy A) (hr : rtI p l e { frames := 2, cells := 0, slots := 0, locals := 149 } s m args below meth c 0 0 Q cX11_feed D A (fun (u : IA × IA × Int32) => (w_X11_feed cy a_this a_refusals a_tape w_s w_image w_read w_told w_met w_best w_kept w_squares w_far w_queue u.1 v_isImage u.2.1 u.2.2 v_at v_wrongHour v_wrongThing v_soonest v_bestSteps)) (fun (r : Int32) (u : IA × IA × Int32) => K r u.1 u.2.1 u.2.2)) {v_refusals : IA} {H : Heap} {locs : List Loc} {ls : Array Slot} : wp_X11_feed_29 v_tape v_taped K v_refusals → wd D A s.heap (w_X11_feed cy a_this a_refusals a_tape w_s w_image w_read w_told w_met w_best w_kept w_squares w_far w_queue v_refusals v_isImage v_tape v_taped v_at v_wrongHour v_wrongThing v_soonest v_bestSteps) H locs → lv_has ls 5 [(0, .ref a_this)] → W p l e { frames := 2, cells := 0, slots := 0, locals := 149 } s m args below meth c H locs 0 0 Q (F0 m 29 ls []) := by
  have hx := ha.1
  have hb := ha.2.1
  intro h hw hl
  have h : wp_X11_refuse (-6 : Int32) v_refusals (fun (r3 : Int32) (v_refusals_4 : IA) => K r3 v_refusals_4 v_tape v_taped) := h
  refine lv_aload_n hx hb dX11_feed_29 rfl (lv_at hl 0 rfl) ?_
  refine lv_bipush (v := (-6 : Int32)) hx hb dX11_feed_30 (by decide) ?_
  refine g_cvi (rm := { frames := 1, cells := 0, slots := 0, locals := 64 }) (wn := (fun (u : IA) => (w_X11_feed cy a_this a_refusals a_tape w_s w_image w_read w_told w_met w_best w_kept w_squares w_far w_queue u v_isImage v_tape v_taped v_at v_wrongHour v_wrongThing v_soonest v_bestSteps))) (As := [.int (-6 : Int32)]) ha hw hl.1 (c_X11_refuse (cy := cy)) (cwV 1 ha.2.2.2.2.1 gX11_feed_X11_refuse rfl rfl rfl hq_X11_refuse ⟨Nat.le_of_ble_eq_true rfl, Nat.le_of_ble_eq_true rfl⟩) [0, 1] [2] [1, 2, 0] rfl rfl rfl rfl (by decide) rfl (fun _ => rfl) rfl rfl h rfl rfl (Nat.le_of_ble_eq_true rfl) dX11_feed_32 ⟨Nat.le_refl _, Nat.le_refl _⟩ (fun r3 u H locs h hw => ?_)
  obtain ⟨v_refusals_4, rfl⟩ : ∃ z, z = u := ⟨_, rfl⟩
  have hw : wd D A s.heap (w_X11_feed cy a_this a_refusals a_tape w_s w_image w_read w_told w_met w_best w_kept w_squares w_far w_queue v_refusals_4 v_isImage v_tape v_taped v_at v_wrongHour v_wrongThing v_soonest v_bestSteps) H locs := hw
  try dsimp only at h
  exact hr _ _ (v_refusals_4, v_tape, v_taped) _ _ _ dX11_feed_35 h hw
def wp_X11_feed_39 (x1 : Int32) (x2 : Int64) (v_refusals : IA) (K : Int32 → IA → IA → Int32 → Prop) : Nat → Int32 → IA → Int32 → Prop
  | 0, _, _, _ => False
  | n + 1, x4, v_tape, v_taped => (x1 ≤ x4 → K v_taped v_refusals v_tape v_taped) ∧ (¬ (x1 ≤ x4) → vp_in v_taped 48 ∧ (wp_X11_feed_39 x1 x2 v_refusals K n (x4 + (1 : Int32)) (upd v_tape v_taped.toNatClampNeg (((x2 >>> (((8 : Int32) * x4).toInt64 &&& 63)) &&& (255 : Int64)).toInt32)) (v_taped + (1 : Int32))))
set_option maxHeartbeats 4000000 in
set_option maxRecDepth 100000 in
theorem pl_X11_feed_39 {p : Program} {l : Launch} {e : Env} {s : State} {m : MethodId} {args : Array Value} {below : List Frame} {meth : Method} {c : Code} {A : Nat → Prop} {Q : State → Prop} {D : va_G} {cy : ClassId} {a_this a_refusals a_tape : Nat} {w_s w_image w_read w_told w_met w_best w_kept w_squares w_far w_queue : Value} {v_refusals : IA} {v_isImage : Int32} {v_at : Int32} {v_wrongHour : Int32} {v_wrongThing : Int32} {v_soonest : Int32} {v_bestSteps : Int32} {x1 : Int32} {x2 : Int64} {K : Int32 → IA → IA → Int32 → Prop} (ha : am p s m args c cX11_feed 5 RX11 wsX11_feed D cy A) (hr : rtI p l e { frames := 2, cells := 0, slots := 0, locals := 149 } s m args below meth c 0 0 Q cX11_feed D A (fun (u : IA × IA × Int32) => (w_X11_feed cy a_this a_refusals a_tape w_s w_image w_read w_told w_met w_best w_kept w_squares w_far w_queue u.1 v_isImage u.2.1 u.2.2 v_at v_wrongHour v_wrongThing v_soonest v_bestSteps)) (fun (r : Int32) (u : IA × IA × Int32) => K r u.1 u.2.1 u.2.2)) : ∀ (n : Nat) (x4 : Int32) (v_tape : IA) (v_taped : Int32) (H : Heap) (locs : List Loc) (ls : Array Slot), wp_X11_feed_39 x1 x2 v_refusals K n x4 v_tape v_taped → wd D A s.heap (w_X11_feed cy a_this a_refusals a_tape w_s w_image w_read w_told w_met w_best w_kept w_squares w_far w_queue v_refusals v_isImage v_tape v_taped v_at v_wrongHour v_wrongThing v_soonest v_bestSteps) H locs → lv_has ls 5 [(0, .ref a_this), (1, .int x1), (2, .long x2), (4, .int x4)] → W p l e { frames := 2, cells := 0, slots := 0, locals := 149 } s m args below meth c H locs 0 0 Q (F0 m 39 ls []) := by
  have hx := ha.1
  have hb := ha.2.1
  intro n
  induction n with
  | zero => exact fun _ _ _ _ _ _ h _ _ => False.elim h
  | succ n ih =>
    intro x4 v_tape v_taped H locs ls h hw hl
    have h : (x1 ≤ x4 → K v_taped v_refusals v_tape v_taped) ∧ (¬ (x1 ≤ x4) → vp_in v_taped 48 ∧ (wp_X11_feed_39 x1 x2 v_refusals K n (x4 + (1 : Int32)) (upd v_tape v_taped.toNatClampNeg (((x2 >>> (((8 : Int32) * x4).toInt64 &&& 63)) &&& (255 : Int64)).toInt32)) (v_taped + (1 : Int32)))) := h
    refine lv_iload hx hb dX11_feed_39 (lv_at hl 3 rfl) ?_
    refine lv_iload_n hx hb dX11_feed_41 rfl (lv_at hl 1 rfl) ?_
    refine lv_icmp_ge (tgt := 82) hx hb dX11_feed_42 (by decide) (fun c6 => ?_) (fun c6 => ?_)
    · have h := h.1 c6
      refine lv_aload_n hx hb dX11_feed_82 rfl (lv_at hl 0 rfl) ?_
      refine g_get (ci := 11) ha hw 0 7 rfl hi_X11_feed_11 (by decide) (List.mem_of_getElem? (i := 1) rfl) rfl rfl dX11_feed_83 ?_
      exact hr _ _ (v_refusals, v_tape, v_taped) _ _ _ dX11_feed_86 h hw
    · have h := h.2 c6
      refine lv_aload_n hx hb dX11_feed_45 rfl (lv_at hl 0 rfl) ?_
      refine g_get (ci := 11) ha hw 0 5 rfl hi_X11_feed_11 (by decide) (List.mem_of_getElem? (i := 2) rfl) rfl rfl dX11_feed_46 ?_
      refine lv_aload_n hx hb dX11_feed_49 rfl (lv_at hl 0 rfl) ?_
      refine g_get (ci := 11) ha hw 0 7 rfl hi_X11_feed_11 (by decide) (List.mem_of_getElem? (i := 1) rfl) rfl rfl dX11_feed_50 ?_
      refine lv_lload_n hx hb dX11_feed_53 rfl (lv_at hl 2 rfl) ?_
      refine lv_bipush (v := (8 : Int32)) hx hb dX11_feed_54 (by decide) ?_
      refine lv_iload hx hb dX11_feed_56 (lv_at hl 3 rfl) ?_
      refine lv_imul hx hb dX11_feed_58 ?_
      refine lv_lshr hx hb dX11_feed_59 rfl ?_
      refine lv_ldc2 hx hb ha.2.2.2.1 (ha.2.2.2.2.1 _ (List.mem_of_getElem? (i := 3) rfl)) dX11_feed_60 ?_
      refine lv_land hx hb dX11_feed_63 ?_
      refine lv_l2i hx hb dX11_feed_64 rfl ?_
      obtain ⟨z7, h⟩ := h
      refine g_ast (wn := (w_X11_feed cy a_this a_refusals a_tape w_s w_image w_read w_told w_met w_best w_kept w_squares w_far w_queue v_refusals v_isImage (upd v_tape v_taped.toNatClampNeg (((x2 >>> (((8 : Int32) * x4).toInt64 &&& 63)) &&& (255 : Int64)).toInt32)) v_taped v_at v_wrongHour v_wrongThing v_soonest v_bestSteps)) ha hw 2 rfl z7 rfl dX11_feed_65 (fun H locs hw => ?_)
      refine lv_aload_n hx hb dX11_feed_66 rfl (lv_at hl 0 rfl) ?_
      refine lv_dup hx hb dX11_feed_67 rfl ?_
      refine g_get (ci := 11) ha hw 0 7 rfl hi_X11_feed_11 (by decide) (List.mem_of_getElem? (i := 1) rfl) rfl rfl dX11_feed_68 ?_
      refine lv_iconst (v := (1 : Int32)) hx hb dX11_feed_71 (by decide) ?_
      refine lv_iadd hx hb dX11_feed_72 ?_
      refine g_put (ci := 11) (wn := (w_X11_feed cy a_this a_refusals a_tape w_s w_image w_read w_told w_met w_best w_kept w_squares w_far w_queue v_refusals v_isImage (upd v_tape v_taped.toNatClampNeg (((x2 >>> (((8 : Int32) * x4).toInt64 &&& 63)) &&& (255 : Int64)).toInt32)) (v_taped + (1 : Int32)) v_at v_wrongHour v_wrongThing v_soonest v_bestSteps)) ha hw 0 7 rfl hi_X11_feed_11 tyX11_ok nmX11 (by decide) (List.mem_of_getElem? (i := 1) rfl) rfl rfl rfl rfl (Nat.le_of_ble_eq_true rfl) rfl dX11_feed_73 (fun H locs hw => ?_)
      refine lv_iinc (v := x4 + (1 : Int32)) (lv' := [(4, .int (x4 + (1 : Int32))), (0, .ref a_this), (1, .int x1), (2, .long x2)]) hx hb dX11_feed_76 hl (k := 3) rfl rfl (by decide) rfl (fun ls hl => ?_)
      refine lv_goto (tgt := 39) hx hb dX11_feed_79 (by decide) ?_
      exact ih _ _ _ _ _ _ h hw (lv_sub hl [1, 2, 3, 0] rfl)
def wp_X11_feed (x1 : Int32) (x2 : Int64) (v_refusals : IA) (v_tape : IA) (v_taped : Int32) (K : Int32 → IA → IA → Int32 → Prop) : Prop := ((1 : Int32) ≤ x1 → ((8 : Int32) < x1 → wp_X11_feed_29 v_tape v_taped K v_refusals) ∧ (¬ ((8 : Int32) < x1) → ((v_taped + x1) ≤ (48 : Int32) → ∃ n8 : Nat, wp_X11_feed_39 x1 x2 v_refusals K n8 (0 : Int32) v_tape v_taped) ∧ (¬ ((v_taped + x1) ≤ (48 : Int32)) → wp_X11_feed_29 v_tape v_taped K v_refusals))) ∧ (¬ ((1 : Int32) ≤ x1) → wp_X11_refuse (-4 : Int32) v_refusals (fun (r9 : Int32) (v_refusals_10 : IA) => K r9 v_refusals_10 v_tape v_taped))
set_option maxHeartbeats 4000000 in
set_option maxRecDepth 100000 in
theorem c_X11_feed {l : Launch} {D : va_G} {cy : ClassId} {a_this a_refusals a_tape : Nat} {w_s w_image w_read w_told w_met w_best w_kept w_squares w_far w_queue : Value} {v_refusals : IA} {v_isImage : Int32} {v_tape : IA} {v_taped : Int32} {v_at : Int32} {v_wrongHour : Int32} {v_wrongThing : Int32} {v_soonest : Int32} {v_bestSteps : Int32} {x1 : Int32} {x2 : Int64} {K : Int32 → IA → IA → Int32 → Prop} : CtI l yX11_feed wsX11_feed { frames := 2, cells := 0, slots := 0, locals := 149 } 0 0 D cy [.ref a_this, .int x1, .long x2] (w_X11_feed cy a_this a_refusals a_tape w_s w_image w_read w_told w_met w_best w_kept w_squares w_far w_queue v_refusals v_isImage v_tape v_taped v_at v_wrongHour v_wrongThing v_soonest v_bestSteps) (wp_X11_feed x1 x2 v_refusals v_tape v_taped K) (fun (u : IA × IA × Int32) => (w_X11_feed cy a_this a_refusals a_tape w_s w_image w_read w_told w_met w_best w_kept w_squares w_far w_queue u.1 v_isImage u.2.1 u.2.2 v_at v_wrongHour v_wrongThing v_soonest v_bestSteps)) (fun (r : Int32) (u : IA × IA × Int32) => K r u.1 u.2.1 u.2.2) := by
  refine CtI.mk (cc := cX11_feed) (nL := 5) (ty := .int) (by decide) rfl (Nat.le_of_ble_eq_true rfl) (fun r u h => rfl) ?_
  intro p e s m args below meth c A Q ha hr _ h ls hl hw
  have ha : am p s m args c cX11_feed 5 RX11 wsX11_feed D cy A := ha
  have hx := ha.1
  have hb := ha.2.1
  have hl : lv_has ls 5 [(0, .ref a_this), (1, .int x1), (2, .long x2)] := hl
  have h : ((1 : Int32) ≤ x1 → ((8 : Int32) < x1 → wp_X11_feed_29 v_tape v_taped K v_refusals) ∧ (¬ ((8 : Int32) < x1) → ((v_taped + x1) ≤ (48 : Int32) → ∃ n8 : Nat, wp_X11_feed_39 x1 x2 v_refusals K n8 (0 : Int32) v_tape v_taped) ∧ (¬ ((v_taped + x1) ≤ (48 : Int32)) → wp_X11_feed_29 v_tape v_taped K v_refusals))) ∧ (¬ ((1 : Int32) ≤ x1) → wp_X11_refuse (-4 : Int32) v_refusals (fun (r9 : Int32) (v_refusals_10 : IA) => K r9 v_refusals_10 v_tape v_taped)) := h
  refine lv_iload_n hx hb dX11_feed_0 rfl (lv_at hl 1 rfl) ?_
  refine lv_iconst (v := (1 : Int32)) hx hb dX11_feed_1 (by decide) ?_
  refine lv_icmp_ge (tgt := 12) hx hb dX11_feed_2 (by decide) (fun c1 => ?_) (fun c1 => ?_)
  · have h := h.1 c1
    refine lv_iload_n hx hb dX11_feed_12 rfl (lv_at hl 1 rfl) ?_
    refine lv_bipush (v := (8 : Int32)) hx hb dX11_feed_13 (by decide) ?_
    refine lv_icmp_gt (tgt := 29) hx hb dX11_feed_15 (by decide) (fun c2 => ?_) (fun c2 => ?_)
    · have h := h.1 c2
      refine pl_X11_feed_29 ha hr h hw (lv_sub hl [0] rfl)
    · have h := h.2 c2
      refine lv_aload_n hx hb dX11_feed_18 rfl (lv_at hl 0 rfl) ?_
      refine g_get (ci := 11) ha hw 0 7 rfl hi_X11_feed_11 (by decide) (List.mem_of_getElem? (i := 1) rfl) rfl rfl dX11_feed_19 ?_
      refine lv_iload_n hx hb dX11_feed_22 rfl (lv_at hl 1 rfl) ?_
      refine lv_iadd hx hb dX11_feed_23 ?_
      refine lv_bipush (v := (48 : Int32)) hx hb dX11_feed_24 (by decide) ?_
      refine lv_icmp_le (tgt := 36) hx hb dX11_feed_26 (by decide) (fun c5 => ?_) (fun c5 => ?_)
      · have h := h.1 c5
        refine lv_iconst (v := (0 : Int32)) hx hb dX11_feed_36 (by decide) ?_
        refine lv_istore (lv' := [(4, .int (0 : Int32)), (0, .ref a_this), (1, .int x1), (2, .long x2)]) hx hb dX11_feed_37 hl (by decide) rfl (fun ls hl => ?_)
        obtain ⟨n9, h⟩ := h
        refine pl_X11_feed_39 ha hr n9 _ _ _ _ _ _ h hw (lv_sub hl [1, 2, 3, 0] rfl)
      · have h := h.2 c5
        refine pl_X11_feed_29 ha hr h hw (lv_sub hl [0] rfl)
  · have h := h.2 c1
    refine lv_aload_n hx hb dX11_feed_5 rfl (lv_at hl 0 rfl) ?_
    refine lv_bipush (v := (-4 : Int32)) hx hb dX11_feed_6 (by decide) ?_
    refine g_cvi (rm := { frames := 1, cells := 0, slots := 0, locals := 64 }) (wn := (fun (u : IA) => (w_X11_feed cy a_this a_refusals a_tape w_s w_image w_read w_told w_met w_best w_kept w_squares w_far w_queue u v_isImage v_tape v_taped v_at v_wrongHour v_wrongThing v_soonest v_bestSteps))) (As := [.int (-4 : Int32)]) ha hw hl.1 (c_X11_refuse (cy := cy)) (cwV 1 ha.2.2.2.2.1 gX11_feed_X11_refuse rfl rfl rfl hq_X11_refuse ⟨Nat.le_of_ble_eq_true rfl, Nat.le_of_ble_eq_true rfl⟩) [0, 1] [2] [1, 2, 0] rfl rfl rfl rfl (by decide) rfl (fun _ => rfl) rfl rfl h rfl rfl (Nat.le_of_ble_eq_true rfl) dX11_feed_8 ⟨Nat.le_refl _, Nat.le_refl _⟩ (fun r9 u H locs h hw => ?_)
    obtain ⟨v_refusals_10, rfl⟩ : ∃ z, z = u := ⟨_, rfl⟩
    have hw : wd D A s.heap (w_X11_feed cy a_this a_refusals a_tape w_s w_image w_read w_told w_met w_best w_kept w_squares w_far w_queue v_refusals_10 v_isImage v_tape v_taped v_at v_wrongHour v_wrongThing v_soonest v_bestSteps) H locs := hw
    try dsimp only at h
    exact hr _ _ (v_refusals_10, v_tape, v_taped) _ _ _ dX11_feed_11 h hw
theorem hq_X11_sign : yX11_sign.cls = RX11 ∧ yX11_sign.cls ≠ "java/lang/invoke/MethodHandle" ∧ yX11_sign.cls ≠ "java/lang/invoke/VarHandle" ∧ (parseMethodDescriptor yX11_sign.desc).map (fun d => d.parameters.length) = some 0 := by decide +kernel
def w_X11_sign (cy : ClassId) (a_this a_tape : Nat) (w_refusals w_s w_image w_read w_told w_met w_best w_kept w_squares w_far w_queue : Value) (v_isImage : Int32) (v_tape : IA) (v_taped : Int32) (v_at : Int32) (v_wrongHour : Int32) (v_wrongThing : Int32) (v_soonest : Int32) (v_bestSteps : Int32) : va_W := [(a_this, .inr (11, [w_refusals, w_s, w_image, w_read, .int v_isImage, .ref a_tape, w_told, .int v_taped, .int v_at, w_met, .int v_wrongHour, .int v_wrongThing, w_best, w_kept, .int v_soonest, .int v_bestSteps, w_squares, w_far, w_queue])), (a_tape, .inl (cy, 48, .inl v_tape))]
theorem hi_X11_sign_11 : ∀ w ∈ u_ws RX11 TX11 19, w ∈ wsX11_sign := fun _ h => List.mem_cons_of_mem _ (List.mem_append_right _ h)
def wp_X11_sign (v_tape : IA) (v_taped : Int32) (v_at : Int32) (K : Int32 → Prop) : Prop := (v_at < v_taped → vp_in v_at 48 ∧ (K (v_tape v_at.toNatClampNeg))) ∧ (¬ (v_at < v_taped) → K (-1 : Int32))
set_option maxHeartbeats 4000000 in
set_option maxRecDepth 100000 in
theorem c_X11_sign {l : Launch} {D : va_G} {cy : ClassId} {a_this a_tape : Nat} {w_refusals w_s w_image w_read w_told w_met w_best w_kept w_squares w_far w_queue : Value} {v_isImage : Int32} {v_tape : IA} {v_taped : Int32} {v_at : Int32} {v_wrongHour : Int32} {v_wrongThing : Int32} {v_soonest : Int32} {v_bestSteps : Int32} {K : Int32 → Prop} : CtI l yX11_sign wsX11_sign { frames := 1, cells := 0, slots := 0, locals := 64 } 0 0 D cy [.ref a_this] (w_X11_sign cy a_this a_tape w_refusals w_s w_image w_read w_told w_met w_best w_kept w_squares w_far w_queue v_isImage v_tape v_taped v_at v_wrongHour v_wrongThing v_soonest v_bestSteps) (wp_X11_sign v_tape v_taped v_at K) (fun (u : Unit) => (w_X11_sign cy a_this a_tape w_refusals w_s w_image w_read w_told w_met w_best w_kept w_squares w_far w_queue v_isImage v_tape v_taped v_at v_wrongHour v_wrongThing v_soonest v_bestSteps)) (fun (r : Int32) (u : Unit) => K r) := by
  refine CtI.mk (cc := cX11_sign) (nL := 1) (ty := .int) (by decide) rfl (Nat.le_of_ble_eq_true rfl) (fun r u h => rfl) ?_
  intro p e s m args below meth c A Q ha hr _ h ls hl hw
  have ha : am p s m args c cX11_sign 1 RX11 wsX11_sign D cy A := ha
  have hx := ha.1
  have hb := ha.2.1
  have hl : lv_has ls 1 [(0, .ref a_this)] := hl
  have h : (v_at < v_taped → vp_in v_at 48 ∧ (K (v_tape v_at.toNatClampNeg))) ∧ (¬ (v_at < v_taped) → K (-1 : Int32)) := h
  refine lv_aload_n hx hb dX11_sign_0 rfl (lv_at hl 0 rfl) ?_
  refine g_get (ci := 11) ha hw 0 8 rfl hi_X11_sign_11 (by decide) (List.mem_of_getElem? (i := 1) rfl) rfl rfl dX11_sign_1 ?_
  refine lv_aload_n hx hb dX11_sign_4 rfl (lv_at hl 0 rfl) ?_
  refine g_get (ci := 11) ha hw 0 7 rfl hi_X11_sign_11 (by decide) (List.mem_of_getElem? (i := 2) rfl) rfl rfl dX11_sign_5 ?_
  refine lv_icmp_lt (tgt := 15) hx hb dX11_sign_8 (by decide) (fun c1 => ?_) (fun c1 => ?_)
  · have h := h.1 c1
    refine lv_aload_n hx hb dX11_sign_15 rfl (lv_at hl 0 rfl) ?_
    refine g_get (ci := 11) ha hw 0 5 rfl hi_X11_sign_11 (by decide) (List.mem_of_getElem? (i := 3) rfl) rfl rfl dX11_sign_16 ?_
    refine lv_aload_n hx hb dX11_sign_19 rfl (lv_at hl 0 rfl) ?_
    refine g_get (ci := 11) ha hw 0 8 rfl hi_X11_sign_11 (by decide) (List.mem_of_getElem? (i := 1) rfl) rfl rfl dX11_sign_20 ?_
    obtain ⟨z2, h⟩ := h
    refine g_ald ha hw 1 rfl z2 dX11_sign_23 ?_
    exact hr _ _ () _ _ _ dX11_sign_24 h hw
  · have h := h.2 c1
    refine lv_iconst (v := (-1 : Int32)) hx hb dX11_sign_11 (by decide) ?_
    refine lv_goto (tgt := 24) hx hb dX11_sign_12 (by decide) ?_
    exact hr _ _ () _ _ _ dX11_sign_24 h hw
theorem hq_X11_isDigit : yX11_isDigit.cls = RX11 ∧ yX11_isDigit.cls ≠ "java/lang/invoke/MethodHandle" ∧ yX11_isDigit.cls ≠ "java/lang/invoke/VarHandle" ∧ (parseMethodDescriptor yX11_isDigit.desc).map (fun d => d.parameters.length) = some 0 := by decide +kernel
def w_X11_isDigit (cy : ClassId) (a_this a_tape : Nat) (w_refusals w_s w_image w_read w_told w_met w_best w_kept w_squares w_far w_queue : Value) (v_isImage : Int32) (v_tape : IA) (v_taped : Int32) (v_at : Int32) (v_wrongHour : Int32) (v_wrongThing : Int32) (v_soonest : Int32) (v_bestSteps : Int32) : va_W := [(a_this, .inr (11, [w_refusals, w_s, w_image, w_read, .int v_isImage, .ref a_tape, w_told, .int v_taped, .int v_at, w_met, .int v_wrongHour, .int v_wrongThing, w_best, w_kept, .int v_soonest, .int v_bestSteps, w_squares, w_far, w_queue])), (a_tape, .inl (cy, 48, .inl v_tape))]
def wp_X11_isDigit (v_tape : IA) (v_taped : Int32) (v_at : Int32) (K : Int32 → Prop) : Prop := wp_X11_sign v_tape v_taped v_at (fun (r1 : Int32) => (r1 < (48 : Int32) → K (0 : Int32)) ∧ (¬ (r1 < (48 : Int32)) → wp_X11_sign v_tape v_taped v_at (fun (r3 : Int32) => ((57 : Int32) < r3 → K (0 : Int32)) ∧ (¬ ((57 : Int32) < r3) → K (1 : Int32)))))
set_option maxHeartbeats 4000000 in
set_option maxRecDepth 100000 in
theorem c_X11_isDigit {l : Launch} {D : va_G} {cy : ClassId} {a_this a_tape : Nat} {w_refusals w_s w_image w_read w_told w_met w_best w_kept w_squares w_far w_queue : Value} {v_isImage : Int32} {v_tape : IA} {v_taped : Int32} {v_at : Int32} {v_wrongHour : Int32} {v_wrongThing : Int32} {v_soonest : Int32} {v_bestSteps : Int32} {K : Int32 → Prop} : CtI l yX11_isDigit wsX11_isDigit { frames := 2, cells := 0, slots := 0, locals := 148 } 0 0 D cy [.ref a_this] (w_X11_isDigit cy a_this a_tape w_refusals w_s w_image w_read w_told w_met w_best w_kept w_squares w_far w_queue v_isImage v_tape v_taped v_at v_wrongHour v_wrongThing v_soonest v_bestSteps) (wp_X11_isDigit v_tape v_taped v_at K) (fun (u : Unit) => (w_X11_isDigit cy a_this a_tape w_refusals w_s w_image w_read w_told w_met w_best w_kept w_squares w_far w_queue v_isImage v_tape v_taped v_at v_wrongHour v_wrongThing v_soonest v_bestSteps)) (fun (r : Int32) (u : Unit) => nz r ∧ K r) := by
  refine CtI.mk (cc := cX11_isDigit) (nL := 1) (ty := .boolean) (by decide) rfl (Nat.le_of_ble_eq_true rfl) (fun r u h => h.1.nar) ?_
  intro p e s m args below meth c A Q ha hr _ h ls hl hw
  have ha : am p s m args c cX11_isDigit 1 RX11 wsX11_isDigit D cy A := ha
  have hx := ha.1
  have hb := ha.2.1
  have hl : lv_has ls 1 [(0, .ref a_this)] := hl
  have h : wp_X11_sign v_tape v_taped v_at (fun (r1 : Int32) => (r1 < (48 : Int32) → K (0 : Int32)) ∧ (¬ (r1 < (48 : Int32)) → wp_X11_sign v_tape v_taped v_at (fun (r3 : Int32) => ((57 : Int32) < r3 → K (0 : Int32)) ∧ (¬ ((57 : Int32) < r3) → K (1 : Int32))))) := h
  refine lv_aload_n hx hb dX11_isDigit_0 rfl (lv_at hl 0 rfl) ?_
  refine g_cvi (rm := { frames := 1, cells := 0, slots := 0, locals := 64 }) (wn := (fun (u : Unit) => (w_X11_isDigit cy a_this a_tape w_refusals w_s w_image w_read w_told w_met w_best w_kept w_squares w_far w_queue v_isImage v_tape v_taped v_at v_wrongHour v_wrongThing v_soonest v_bestSteps))) (As := []) ha hw hl.1 (c_X11_sign (cy := cy)) (cwV 0 ha.2.2.2.2.1 gX11_isDigit_X11_sign rfl rfl rfl hq_X11_sign ⟨Nat.le_of_ble_eq_true rfl, Nat.le_of_ble_eq_true rfl⟩) [0, 1] [] [0, 1] rfl rfl rfl rfl (by decide) rfl (fun _ => rfl) rfl rfl h rfl rfl (Nat.le_of_ble_eq_true rfl) dX11_isDigit_1 ⟨Nat.le_refl _, Nat.le_refl _⟩ (fun r1 u H locs h hw => ?_)
  have hw : wd D A s.heap (w_X11_isDigit cy a_this a_tape w_refusals w_s w_image w_read w_told w_met w_best w_kept w_squares w_far w_queue v_isImage v_tape v_taped v_at v_wrongHour v_wrongThing v_soonest v_bestSteps) H locs := hw
  try dsimp only at h
  refine lv_bipush (v := (48 : Int32)) hx hb dX11_isDigit_4 (by decide) ?_
  refine lv_icmp_lt (tgt := 22) hx hb dX11_isDigit_6 (by decide) (fun c2 => ?_) (fun c2 => ?_)
  · have h := h.1 c2
    refine lv_iconst (v := (0 : Int32)) hx hb dX11_isDigit_22 (by decide) ?_
    exact hr _ _ () _ _ _ dX11_isDigit_23 ⟨nz0, h⟩ hw
  · have h := h.2 c2
    refine lv_aload_n hx hb dX11_isDigit_9 rfl (lv_at hl 0 rfl) ?_
    refine g_cvi (rm := { frames := 1, cells := 0, slots := 0, locals := 64 }) (wn := (fun (u : Unit) => (w_X11_isDigit cy a_this a_tape w_refusals w_s w_image w_read w_told w_met w_best w_kept w_squares w_far w_queue v_isImage v_tape v_taped v_at v_wrongHour v_wrongThing v_soonest v_bestSteps))) (As := []) ha hw hl.1 (c_X11_sign (cy := cy)) (cwV 0 ha.2.2.2.2.1 gX11_isDigit_X11_sign rfl rfl rfl hq_X11_sign ⟨Nat.le_of_ble_eq_true rfl, Nat.le_of_ble_eq_true rfl⟩) [0, 1] [] [0, 1] rfl rfl rfl rfl (by decide) rfl (fun _ => rfl) rfl rfl h rfl rfl (Nat.le_of_ble_eq_true rfl) dX11_isDigit_10 ⟨Nat.le_refl _, Nat.le_refl _⟩ (fun r3 u H locs h hw => ?_)
    have hw : wd D A s.heap (w_X11_isDigit cy a_this a_tape w_refusals w_s w_image w_read w_told w_met w_best w_kept w_squares w_far w_queue v_isImage v_tape v_taped v_at v_wrongHour v_wrongThing v_soonest v_bestSteps) H locs := hw
    try dsimp only at h
    refine lv_bipush (v := (57 : Int32)) hx hb dX11_isDigit_13 (by decide) ?_
    refine lv_icmp_gt (tgt := 22) hx hb dX11_isDigit_15 (by decide) (fun c4 => ?_) (fun c4 => ?_)
    · have h := h.1 c4
      refine lv_iconst (v := (0 : Int32)) hx hb dX11_isDigit_22 (by decide) ?_
      exact hr _ _ () _ _ _ dX11_isDigit_23 ⟨nz0, h⟩ hw
    · have h := h.2 c4
      refine lv_iconst (v := (1 : Int32)) hx hb dX11_isDigit_18 (by decide) ?_
      refine lv_goto (tgt := 23) hx hb dX11_isDigit_19 (by decide) ?_
      exact hr _ _ () _ _ _ dX11_isDigit_23 ⟨nz1, h⟩ hw
theorem hq_X11_takes : yX11_takes.cls = RX11 ∧ yX11_takes.cls ≠ "java/lang/invoke/MethodHandle" ∧ yX11_takes.cls ≠ "java/lang/invoke/VarHandle" ∧ (parseMethodDescriptor yX11_takes.desc).map (fun d => d.parameters.length) = some 1 := by decide +kernel
def w_X11_takes (cy : ClassId) (a_this a_tape : Nat) (w_refusals w_s w_image w_read w_told w_met w_best w_kept w_squares w_far w_queue : Value) (v_isImage : Int32) (v_tape : IA) (v_taped : Int32) (v_at : Int32) (v_wrongHour : Int32) (v_wrongThing : Int32) (v_soonest : Int32) (v_bestSteps : Int32) : va_W := [(a_this, .inr (11, [w_refusals, w_s, w_image, w_read, .int v_isImage, .ref a_tape, w_told, .int v_taped, .int v_at, w_met, .int v_wrongHour, .int v_wrongThing, w_best, w_kept, .int v_soonest, .int v_bestSteps, w_squares, w_far, w_queue])), (a_tape, .inl (cy, 48, .inl v_tape))]
theorem hi_X11_takes_11 : ∀ w ∈ u_ws RX11 TX11 19, w ∈ wsX11_takes := fun _ h => List.mem_cons_of_mem _ (List.mem_append_right _ h)
def wp_X11_takes (x1 : Int32) (v_tape : IA) (v_taped : Int32) (v_at : Int32) (K : Int32 → Int32 → Prop) : Prop := wp_X11_sign v_tape v_taped v_at (fun (r1 : Int32) => (r1 = x1 → K (1 : Int32) (v_at + (1 : Int32))) ∧ (¬ (r1 = x1) → K (0 : Int32) v_at))
set_option maxHeartbeats 4000000 in
set_option maxRecDepth 100000 in
theorem c_X11_takes {l : Launch} {D : va_G} {cy : ClassId} {a_this a_tape : Nat} {w_refusals w_s w_image w_read w_told w_met w_best w_kept w_squares w_far w_queue : Value} {v_isImage : Int32} {v_tape : IA} {v_taped : Int32} {v_at : Int32} {v_wrongHour : Int32} {v_wrongThing : Int32} {v_soonest : Int32} {v_bestSteps : Int32} {x1 : Int32} {K : Int32 → Int32 → Prop} : CtI l yX11_takes wsX11_takes { frames := 2, cells := 0, slots := 0, locals := 148 } 0 0 D cy [.ref a_this, .int x1] (w_X11_takes cy a_this a_tape w_refusals w_s w_image w_read w_told w_met w_best w_kept w_squares w_far w_queue v_isImage v_tape v_taped v_at v_wrongHour v_wrongThing v_soonest v_bestSteps) (wp_X11_takes x1 v_tape v_taped v_at K) (fun (u : Int32) => (w_X11_takes cy a_this a_tape w_refusals w_s w_image w_read w_told w_met w_best w_kept w_squares w_far w_queue v_isImage v_tape v_taped u v_wrongHour v_wrongThing v_soonest v_bestSteps)) (fun (r : Int32) (u : Int32) => nz r ∧ K r u) := by
  refine CtI.mk (cc := cX11_takes) (nL := 2) (ty := .boolean) (by decide) rfl (Nat.le_of_ble_eq_true rfl) (fun r u h => h.1.nar) ?_
  intro p e s m args below meth c A Q ha hr _ h ls hl hw
  have ha : am p s m args c cX11_takes 2 RX11 wsX11_takes D cy A := ha
  have hx := ha.1
  have hb := ha.2.1
  have hl : lv_has ls 2 [(0, .ref a_this), (1, .int x1)] := hl
  have h : wp_X11_sign v_tape v_taped v_at (fun (r1 : Int32) => (r1 = x1 → K (1 : Int32) (v_at + (1 : Int32))) ∧ (¬ (r1 = x1) → K (0 : Int32) v_at)) := h
  refine lv_aload_n hx hb dX11_takes_0 rfl (lv_at hl 0 rfl) ?_
  refine g_cvi (rm := { frames := 1, cells := 0, slots := 0, locals := 64 }) (wn := (fun (u : Unit) => (w_X11_takes cy a_this a_tape w_refusals w_s w_image w_read w_told w_met w_best w_kept w_squares w_far w_queue v_isImage v_tape v_taped v_at v_wrongHour v_wrongThing v_soonest v_bestSteps))) (As := []) ha hw hl.1 (c_X11_sign (cy := cy)) (cwV 0 ha.2.2.2.2.1 gX11_takes_X11_sign rfl rfl rfl hq_X11_sign ⟨Nat.le_of_ble_eq_true rfl, Nat.le_of_ble_eq_true rfl⟩) [0, 1] [] [0, 1] rfl rfl rfl rfl (by decide) rfl (fun _ => rfl) rfl rfl h rfl rfl (Nat.le_of_ble_eq_true rfl) dX11_takes_1 ⟨Nat.le_refl _, Nat.le_refl _⟩ (fun r1 u H locs h hw => ?_)
  have hw : wd D A s.heap (w_X11_takes cy a_this a_tape w_refusals w_s w_image w_read w_told w_met w_best w_kept w_squares w_far w_queue v_isImage v_tape v_taped v_at v_wrongHour v_wrongThing v_soonest v_bestSteps) H locs := hw
  try dsimp only at h
  refine lv_iload_n hx hb dX11_takes_4 rfl (lv_at hl 1 rfl) ?_
  refine lv_icmp_eq (tgt := 10) hx hb dX11_takes_5 (by decide) (fun c2 => ?_) (fun c2 => ?_)
  · have h := h.1 c2
    refine lv_aload_n hx hb dX11_takes_10 rfl (lv_at hl 0 rfl) ?_
    refine lv_dup hx hb dX11_takes_11 rfl ?_
    refine g_get (ci := 11) ha hw 0 8 rfl hi_X11_takes_11 (by decide) (List.mem_of_getElem? (i := 1) rfl) rfl rfl dX11_takes_12 ?_
    refine lv_iconst (v := (1 : Int32)) hx hb dX11_takes_15 (by decide) ?_
    refine lv_iadd hx hb dX11_takes_16 ?_
    refine g_put (ci := 11) (wn := (w_X11_takes cy a_this a_tape w_refusals w_s w_image w_read w_told w_met w_best w_kept w_squares w_far w_queue v_isImage v_tape v_taped (v_at + (1 : Int32)) v_wrongHour v_wrongThing v_soonest v_bestSteps)) ha hw 0 8 rfl hi_X11_takes_11 tyX11_ok nmX11 (by decide) (List.mem_of_getElem? (i := 1) rfl) rfl rfl rfl rfl (Nat.le_of_ble_eq_true rfl) rfl dX11_takes_17 (fun H locs hw => ?_)
    refine lv_iconst (v := (1 : Int32)) hx hb dX11_takes_20 (by decide) ?_
    exact hr _ _ (v_at + (1 : Int32)) _ _ _ dX11_takes_21 ⟨nz1, h⟩ hw
  · have h := h.2 c2
    refine lv_iconst (v := (0 : Int32)) hx hb dX11_takes_8 (by decide) ?_
    exact hr _ _ (v_at) _ _ _ dX11_takes_9 ⟨nz0, h⟩ hw
theorem hq_X11_readsDigit : yX11_readsDigit.cls = RX11 ∧ yX11_readsDigit.cls ≠ "java/lang/invoke/MethodHandle" ∧ yX11_readsDigit.cls ≠ "java/lang/invoke/VarHandle" ∧ (parseMethodDescriptor yX11_readsDigit.desc).map (fun d => d.parameters.length) = some 1 := by decide +kernel
def w_X11_readsDigit (cy : ClassId) (a_this a_tape a_told : Nat) (w_refusals w_s w_image w_read w_met w_best w_kept w_squares w_far w_queue : Value) (v_isImage : Int32) (v_tape : IA) (v_told : IA) (v_taped : Int32) (v_at : Int32) (v_wrongHour : Int32) (v_wrongThing : Int32) (v_soonest : Int32) (v_bestSteps : Int32) : va_W := [(a_this, .inr (11, [w_refusals, w_s, w_image, w_read, .int v_isImage, .ref a_tape, .ref a_told, .int v_taped, .int v_at, w_met, .int v_wrongHour, .int v_wrongThing, w_best, w_kept, .int v_soonest, .int v_bestSteps, w_squares, w_far, w_queue])), (a_tape, .inl (cy, 48, .inl v_tape)), (a_told, .inl (cy, 4, .inl v_told))]
theorem hi_X11_readsDigit_11 : ∀ w ∈ u_ws RX11 TX11 19, w ∈ wsX11_readsDigit := fun _ h => List.mem_cons_of_mem _ (List.mem_append_right _ h)
def wp_X11_readsDigit (x1 : Int32) (v_tape : IA) (v_told : IA) (v_taped : Int32) (v_at : Int32) (K : Int32 → IA → Int32 → Prop) : Prop := wp_X11_isDigit v_tape v_taped v_at (fun (r1 : Int32) => (r1 = 0 → K (0 : Int32) v_told v_at) ∧ (¬ (r1 = 0) → wp_X11_sign v_tape v_taped v_at (fun (r3 : Int32) => vp_in x1 4 ∧ (K (1 : Int32) (upd v_told x1.toNatClampNeg (r3 - (48 : Int32))) (v_at + (1 : Int32))))))
set_option maxHeartbeats 4000000 in
set_option maxRecDepth 100000 in
theorem c_X11_readsDigit {l : Launch} {D : va_G} {cy : ClassId} {a_this a_tape a_told : Nat} {w_refusals w_s w_image w_read w_met w_best w_kept w_squares w_far w_queue : Value} {v_isImage : Int32} {v_tape : IA} {v_told : IA} {v_taped : Int32} {v_at : Int32} {v_wrongHour : Int32} {v_wrongThing : Int32} {v_soonest : Int32} {v_bestSteps : Int32} {x1 : Int32} {K : Int32 → IA → Int32 → Prop} : CtI l yX11_readsDigit wsX11_readsDigit { frames := 3, cells := 0, slots := 0, locals := 232 } 0 0 D cy [.ref a_this, .int x1] (w_X11_readsDigit cy a_this a_tape a_told w_refusals w_s w_image w_read w_met w_best w_kept w_squares w_far w_queue v_isImage v_tape v_told v_taped v_at v_wrongHour v_wrongThing v_soonest v_bestSteps) (wp_X11_readsDigit x1 v_tape v_told v_taped v_at K) (fun (u : IA × Int32) => (w_X11_readsDigit cy a_this a_tape a_told w_refusals w_s w_image w_read w_met w_best w_kept w_squares w_far w_queue v_isImage v_tape u.1 v_taped u.2 v_wrongHour v_wrongThing v_soonest v_bestSteps)) (fun (r : Int32) (u : IA × Int32) => nz r ∧ K r u.1 u.2) := by
  refine CtI.mk (cc := cX11_readsDigit) (nL := 2) (ty := .boolean) (by decide) rfl (Nat.le_of_ble_eq_true rfl) (fun r u h => h.1.nar) ?_
  intro p e s m args below meth c A Q ha hr _ h ls hl hw
  have ha : am p s m args c cX11_readsDigit 2 RX11 wsX11_readsDigit D cy A := ha
  have hx := ha.1
  have hb := ha.2.1
  have hl : lv_has ls 2 [(0, .ref a_this), (1, .int x1)] := hl
  have h : wp_X11_isDigit v_tape v_taped v_at (fun (r1 : Int32) => (r1 = 0 → K (0 : Int32) v_told v_at) ∧ (¬ (r1 = 0) → wp_X11_sign v_tape v_taped v_at (fun (r3 : Int32) => vp_in x1 4 ∧ (K (1 : Int32) (upd v_told x1.toNatClampNeg (r3 - (48 : Int32))) (v_at + (1 : Int32)))))) := h
  refine lv_aload_n hx hb dX11_readsDigit_0 rfl (lv_at hl 0 rfl) ?_
  refine g_cvi (rm := { frames := 2, cells := 0, slots := 0, locals := 148 }) (wn := (fun (u : Unit) => (w_X11_readsDigit cy a_this a_tape a_told w_refusals w_s w_image w_read w_met w_best w_kept w_squares w_far w_queue v_isImage v_tape v_told v_taped v_at v_wrongHour v_wrongThing v_soonest v_bestSteps))) (As := []) ha hw hl.1 (c_X11_isDigit (cy := cy)) (cwV 0 ha.2.2.2.2.1 gX11_readsDigit_X11_isDigit rfl rfl rfl hq_X11_isDigit ⟨Nat.le_of_ble_eq_true rfl, Nat.le_of_ble_eq_true rfl⟩) [0, 1] [2] [1, 2, 0] rfl rfl rfl rfl (by decide) rfl (fun _ => rfl) rfl rfl h rfl rfl (Nat.le_of_ble_eq_true rfl) dX11_readsDigit_1 ⟨Nat.le_refl _, Nat.le_refl _⟩ (fun r1 u H locs h hw => ?_)
  have hw : wd D A s.heap (w_X11_readsDigit cy a_this a_tape a_told w_refusals w_s w_image w_read w_met w_best w_kept w_squares w_far w_queue v_isImage v_tape v_told v_taped v_at v_wrongHour v_wrongThing v_soonest v_bestSteps) H locs := hw
  obtain ⟨zr1, h⟩ := h
  try dsimp only at h
  refine lv_if_ne (tgt := 9) hx hb dX11_readsDigit_4 (by decide) (fun c2 => ?_) (fun c2 => ?_)
  · have h := h.2 c2
    refine lv_aload_n hx hb dX11_readsDigit_9 rfl (lv_at hl 0 rfl) ?_
    refine g_get (ci := 11) ha hw 0 6 rfl hi_X11_readsDigit_11 (by decide) (List.mem_of_getElem? (i := 1) rfl) rfl rfl dX11_readsDigit_10 ?_
    refine lv_iload_n hx hb dX11_readsDigit_13 rfl (lv_at hl 1 rfl) ?_
    refine lv_aload_n hx hb dX11_readsDigit_14 rfl (lv_at hl 0 rfl) ?_
    refine g_cvi (rm := { frames := 1, cells := 0, slots := 0, locals := 64 }) (wn := (fun (u : Unit) => (w_X11_readsDigit cy a_this a_tape a_told w_refusals w_s w_image w_read w_met w_best w_kept w_squares w_far w_queue v_isImage v_tape v_told v_taped v_at v_wrongHour v_wrongThing v_soonest v_bestSteps))) (As := []) ha hw hl.1 (c_X11_sign (cy := cy)) (cwV 0 ha.2.2.2.2.1 gX11_readsDigit_X11_sign rfl rfl rfl hq_X11_sign ⟨Nat.le_of_ble_eq_true rfl, Nat.le_of_ble_eq_true rfl⟩) [0, 1] [2] [1, 2, 0] rfl rfl rfl rfl (by decide) rfl (fun _ => rfl) rfl rfl h rfl rfl (Nat.le_of_ble_eq_true rfl) dX11_readsDigit_15 ⟨Nat.le_refl _, Nat.le_refl _⟩ (fun r3 u H locs h hw => ?_)
    have hw : wd D A s.heap (w_X11_readsDigit cy a_this a_tape a_told w_refusals w_s w_image w_read w_met w_best w_kept w_squares w_far w_queue v_isImage v_tape v_told v_taped v_at v_wrongHour v_wrongThing v_soonest v_bestSteps) H locs := hw
    try dsimp only at h
    refine lv_bipush (v := (48 : Int32)) hx hb dX11_readsDigit_18 (by decide) ?_
    refine lv_isub hx hb dX11_readsDigit_20 ?_
    obtain ⟨z4, h⟩ := h
    refine g_ast (wn := (w_X11_readsDigit cy a_this a_tape a_told w_refusals w_s w_image w_read w_met w_best w_kept w_squares w_far w_queue v_isImage v_tape (upd v_told x1.toNatClampNeg (r3 - (48 : Int32))) v_taped v_at v_wrongHour v_wrongThing v_soonest v_bestSteps)) ha hw 2 rfl z4 rfl dX11_readsDigit_21 (fun H locs hw => ?_)
    refine lv_aload_n hx hb dX11_readsDigit_22 rfl (lv_at hl 0 rfl) ?_
    refine lv_dup hx hb dX11_readsDigit_23 rfl ?_
    refine g_get (ci := 11) ha hw 0 8 rfl hi_X11_readsDigit_11 (by decide) (List.mem_of_getElem? (i := 2) rfl) rfl rfl dX11_readsDigit_24 ?_
    refine lv_iconst (v := (1 : Int32)) hx hb dX11_readsDigit_27 (by decide) ?_
    refine lv_iadd hx hb dX11_readsDigit_28 ?_
    refine g_put (ci := 11) (wn := (w_X11_readsDigit cy a_this a_tape a_told w_refusals w_s w_image w_read w_met w_best w_kept w_squares w_far w_queue v_isImage v_tape (upd v_told x1.toNatClampNeg (r3 - (48 : Int32))) v_taped (v_at + (1 : Int32)) v_wrongHour v_wrongThing v_soonest v_bestSteps)) ha hw 0 8 rfl hi_X11_readsDigit_11 tyX11_ok nmX11 (by decide) (List.mem_of_getElem? (i := 2) rfl) rfl rfl rfl rfl (Nat.le_of_ble_eq_true rfl) rfl dX11_readsDigit_29 (fun H locs hw => ?_)
    refine lv_iconst (v := (1 : Int32)) hx hb dX11_readsDigit_32 (by decide) ?_
    exact hr _ _ (upd v_told x1.toNatClampNeg (r3 - (48 : Int32)), v_at + (1 : Int32)) _ _ _ dX11_readsDigit_33 ⟨nz1, h⟩ hw
  · have h := h.1 c2
    refine lv_iconst (v := (0 : Int32)) hx hb dX11_readsDigit_7 (by decide) ?_
    exact hr _ _ (v_told, v_at) _ _ _ dX11_readsDigit_8 ⟨nz0, h⟩ hw
theorem hq_X11_readsHour : yX11_readsHour.cls = RX11 ∧ yX11_readsHour.cls ≠ "java/lang/invoke/MethodHandle" ∧ yX11_readsHour.cls ≠ "java/lang/invoke/VarHandle" ∧ (parseMethodDescriptor yX11_readsHour.desc).map (fun d => d.parameters.length) = some 1 := by decide +kernel
def w_X11_readsHour (cy : ClassId) (a_this a_tape a_told : Nat) (w_refusals w_s w_image w_read w_met w_best w_kept w_squares w_far w_queue : Value) (v_isImage : Int32) (v_tape : IA) (v_told : IA) (v_taped : Int32) (v_at : Int32) (v_wrongHour : Int32) (v_wrongThing : Int32) (v_soonest : Int32) (v_bestSteps : Int32) : va_W := [(a_this, .inr (11, [w_refusals, w_s, w_image, w_read, .int v_isImage, .ref a_tape, .ref a_told, .int v_taped, .int v_at, w_met, .int v_wrongHour, .int v_wrongThing, w_best, w_kept, .int v_soonest, .int v_bestSteps, w_squares, w_far, w_queue])), (a_tape, .inl (cy, 48, .inl v_tape)), (a_told, .inl (cy, 4, .inl v_told))]
theorem hi_X11_readsHour_11 : ∀ w ∈ u_ws RX11 TX11 19, w ∈ wsX11_readsHour := fun _ h => List.mem_cons_of_mem _ (List.mem_append_right _ h)
def wp_X11_readsHour (x1 : Int32) (v_tape : IA) (v_told : IA) (v_taped : Int32) (v_at : Int32) (K : Int32 → IA → Int32 → Prop) : Prop := wp_X11_readsDigit x1 v_tape v_told v_taped v_at (fun (r1 : Int32) (v_told_2 : IA) (v_at_3 : Int32) => (r1 = 0 → K (0 : Int32) v_told_2 v_at_3) ∧ (¬ (r1 = 0) → wp_X11_isDigit v_tape v_taped v_at_3 (fun (r5 : Int32) => (r5 = 0 → K (1 : Int32) v_told_2 v_at_3) ∧ (¬ (r5 = 0) → vp_in x1 4 ∧ (wp_X11_sign v_tape v_taped v_at_3 (fun (r8 : Int32) => K (1 : Int32) (upd v_told_2 x1.toNatClampNeg ((((10 : Int32) * (v_told_2 x1.toNatClampNeg)) + r8) - (48 : Int32))) (v_at_3 + (1 : Int32))))))))
set_option maxHeartbeats 4000000 in
set_option maxRecDepth 100000 in
theorem c_X11_readsHour {l : Launch} {D : va_G} {cy : ClassId} {a_this a_tape a_told : Nat} {w_refusals w_s w_image w_read w_met w_best w_kept w_squares w_far w_queue : Value} {v_isImage : Int32} {v_tape : IA} {v_told : IA} {v_taped : Int32} {v_at : Int32} {v_wrongHour : Int32} {v_wrongThing : Int32} {v_soonest : Int32} {v_bestSteps : Int32} {x1 : Int32} {K : Int32 → IA → Int32 → Prop} : CtI l yX11_readsHour wsX11_readsHour { frames := 4, cells := 0, slots := 0, locals := 317 } 0 0 D cy [.ref a_this, .int x1] (w_X11_readsHour cy a_this a_tape a_told w_refusals w_s w_image w_read w_met w_best w_kept w_squares w_far w_queue v_isImage v_tape v_told v_taped v_at v_wrongHour v_wrongThing v_soonest v_bestSteps) (wp_X11_readsHour x1 v_tape v_told v_taped v_at K) (fun (u : IA × Int32) => (w_X11_readsHour cy a_this a_tape a_told w_refusals w_s w_image w_read w_met w_best w_kept w_squares w_far w_queue v_isImage v_tape u.1 v_taped u.2 v_wrongHour v_wrongThing v_soonest v_bestSteps)) (fun (r : Int32) (u : IA × Int32) => nz r ∧ K r u.1 u.2) := by
  refine CtI.mk (cc := cX11_readsHour) (nL := 2) (ty := .boolean) (by decide) rfl (Nat.le_of_ble_eq_true rfl) (fun r u h => h.1.nar) ?_
  intro p e s m args below meth c A Q ha hr _ h ls hl hw
  have ha : am p s m args c cX11_readsHour 2 RX11 wsX11_readsHour D cy A := ha
  have hx := ha.1
  have hb := ha.2.1
  have hl : lv_has ls 2 [(0, .ref a_this), (1, .int x1)] := hl
  have h : wp_X11_readsDigit x1 v_tape v_told v_taped v_at (fun (r1 : Int32) (v_told_2 : IA) (v_at_3 : Int32) => (r1 = 0 → K (0 : Int32) v_told_2 v_at_3) ∧ (¬ (r1 = 0) → wp_X11_isDigit v_tape v_taped v_at_3 (fun (r5 : Int32) => (r5 = 0 → K (1 : Int32) v_told_2 v_at_3) ∧ (¬ (r5 = 0) → vp_in x1 4 ∧ (wp_X11_sign v_tape v_taped v_at_3 (fun (r8 : Int32) => K (1 : Int32) (upd v_told_2 x1.toNatClampNeg ((((10 : Int32) * (v_told_2 x1.toNatClampNeg)) + r8) - (48 : Int32))) (v_at_3 + (1 : Int32)))))))) := h
  refine lv_aload_n hx hb dX11_readsHour_0 rfl (lv_at hl 0 rfl) ?_
  refine lv_iload_n hx hb dX11_readsHour_1 rfl (lv_at hl 1 rfl) ?_
  refine g_cvi (rm := { frames := 3, cells := 0, slots := 0, locals := 232 }) (wn := (fun (u : IA × Int32) => (w_X11_readsHour cy a_this a_tape a_told w_refusals w_s w_image w_read w_met w_best w_kept w_squares w_far w_queue v_isImage v_tape u.1 v_taped u.2 v_wrongHour v_wrongThing v_soonest v_bestSteps))) (As := [.int x1]) ha hw hl.1 (c_X11_readsDigit (cy := cy)) (cwV 1 ha.2.2.2.2.1 gX11_readsHour_X11_readsDigit rfl rfl rfl hq_X11_readsDigit ⟨Nat.le_of_ble_eq_true rfl, Nat.le_of_ble_eq_true rfl⟩) [0, 1, 2] [] [0, 1, 2] rfl rfl rfl rfl (by decide) rfl (fun _ => rfl) rfl rfl h rfl rfl (Nat.le_of_ble_eq_true rfl) dX11_readsHour_2 ⟨Nat.le_refl _, Nat.le_refl _⟩ (fun r1 u H locs h hw => ?_)
  obtain ⟨v_told_2, v_at_3⟩ := u
  have hw : wd D A s.heap (w_X11_readsHour cy a_this a_tape a_told w_refusals w_s w_image w_read w_met w_best w_kept w_squares w_far w_queue v_isImage v_tape v_told_2 v_taped v_at_3 v_wrongHour v_wrongThing v_soonest v_bestSteps) H locs := hw
  obtain ⟨zr1, h⟩ := h
  try dsimp only at h
  refine lv_if_ne (tgt := 10) hx hb dX11_readsHour_5 (by decide) (fun c4 => ?_) (fun c4 => ?_)
  · have h := h.2 c4
    refine lv_aload_n hx hb dX11_readsHour_10 rfl (lv_at hl 0 rfl) ?_
    refine g_cvi (rm := { frames := 2, cells := 0, slots := 0, locals := 148 }) (wn := (fun (u : Unit) => (w_X11_readsHour cy a_this a_tape a_told w_refusals w_s w_image w_read w_met w_best w_kept w_squares w_far w_queue v_isImage v_tape v_told_2 v_taped v_at_3 v_wrongHour v_wrongThing v_soonest v_bestSteps))) (As := []) ha hw hl.1 (c_X11_isDigit (cy := cy)) (cwV 0 ha.2.2.2.2.1 gX11_readsHour_X11_isDigit rfl rfl rfl hq_X11_isDigit ⟨Nat.le_of_ble_eq_true rfl, Nat.le_of_ble_eq_true rfl⟩) [0, 1] [2] [1, 2, 0] rfl rfl rfl rfl (by decide) rfl (fun _ => rfl) rfl rfl h rfl rfl (Nat.le_of_ble_eq_true rfl) dX11_readsHour_11 ⟨Nat.le_refl _, Nat.le_refl _⟩ (fun r5 u H locs h hw => ?_)
    have hw : wd D A s.heap (w_X11_readsHour cy a_this a_tape a_told w_refusals w_s w_image w_read w_met w_best w_kept w_squares w_far w_queue v_isImage v_tape v_told_2 v_taped v_at_3 v_wrongHour v_wrongThing v_soonest v_bestSteps) H locs := hw
    obtain ⟨zr5, h⟩ := h
    try dsimp only at h
    refine lv_if_eq (tgt := 50) hx hb dX11_readsHour_14 (by decide) (fun c6 => ?_) (fun c6 => ?_)
    · have h := h.1 c6
      refine lv_iconst (v := (1 : Int32)) hx hb dX11_readsHour_50 (by decide) ?_
      exact hr _ _ (v_told_2, v_at_3) _ _ _ dX11_readsHour_51 ⟨nz1, h⟩ hw
    · have h := h.2 c6
      refine lv_aload_n hx hb dX11_readsHour_17 rfl (lv_at hl 0 rfl) ?_
      refine g_get (ci := 11) ha hw 0 6 rfl hi_X11_readsHour_11 (by decide) (List.mem_of_getElem? (i := 1) rfl) rfl rfl dX11_readsHour_18 ?_
      refine lv_iload_n hx hb dX11_readsHour_21 rfl (lv_at hl 1 rfl) ?_
      refine lv_bipush (v := (10 : Int32)) hx hb dX11_readsHour_22 (by decide) ?_
      refine lv_aload_n hx hb dX11_readsHour_24 rfl (lv_at hl 0 rfl) ?_
      refine g_get (ci := 11) ha hw 0 6 rfl hi_X11_readsHour_11 (by decide) (List.mem_of_getElem? (i := 1) rfl) rfl rfl dX11_readsHour_25 ?_
      refine lv_iload_n hx hb dX11_readsHour_28 rfl (lv_at hl 1 rfl) ?_
      obtain ⟨z7, h⟩ := h
      refine g_ald ha hw 2 rfl z7 dX11_readsHour_29 ?_
      refine lv_imul hx hb dX11_readsHour_30 ?_
      refine lv_aload_n hx hb dX11_readsHour_31 rfl (lv_at hl 0 rfl) ?_
      refine g_cvi (rm := { frames := 1, cells := 0, slots := 0, locals := 64 }) (wn := (fun (u : Unit) => (w_X11_readsHour cy a_this a_tape a_told w_refusals w_s w_image w_read w_met w_best w_kept w_squares w_far w_queue v_isImage v_tape v_told_2 v_taped v_at_3 v_wrongHour v_wrongThing v_soonest v_bestSteps))) (As := []) ha hw hl.1 (c_X11_sign (cy := cy)) (cwV 0 ha.2.2.2.2.1 gX11_readsHour_X11_sign rfl rfl rfl hq_X11_sign ⟨Nat.le_of_ble_eq_true rfl, Nat.le_of_ble_eq_true rfl⟩) [0, 1] [2] [1, 2, 0] rfl rfl rfl rfl (by decide) rfl (fun _ => rfl) rfl rfl h rfl rfl (Nat.le_of_ble_eq_true rfl) dX11_readsHour_32 ⟨Nat.le_refl _, Nat.le_refl _⟩ (fun r8 u H locs h hw => ?_)
      have hw : wd D A s.heap (w_X11_readsHour cy a_this a_tape a_told w_refusals w_s w_image w_read w_met w_best w_kept w_squares w_far w_queue v_isImage v_tape v_told_2 v_taped v_at_3 v_wrongHour v_wrongThing v_soonest v_bestSteps) H locs := hw
      try dsimp only at h
      refine lv_iadd hx hb dX11_readsHour_35 ?_
      refine lv_bipush (v := (48 : Int32)) hx hb dX11_readsHour_36 (by decide) ?_
      refine lv_isub hx hb dX11_readsHour_38 ?_
      refine g_ast (wn := (w_X11_readsHour cy a_this a_tape a_told w_refusals w_s w_image w_read w_met w_best w_kept w_squares w_far w_queue v_isImage v_tape (upd v_told_2 x1.toNatClampNeg ((((10 : Int32) * (v_told_2 x1.toNatClampNeg)) + r8) - (48 : Int32))) v_taped v_at_3 v_wrongHour v_wrongThing v_soonest v_bestSteps)) ha hw 2 rfl z7 rfl dX11_readsHour_39 (fun H locs hw => ?_)
      refine lv_aload_n hx hb dX11_readsHour_40 rfl (lv_at hl 0 rfl) ?_
      refine lv_dup hx hb dX11_readsHour_41 rfl ?_
      refine g_get (ci := 11) ha hw 0 8 rfl hi_X11_readsHour_11 (by decide) (List.mem_of_getElem? (i := 2) rfl) rfl rfl dX11_readsHour_42 ?_
      refine lv_iconst (v := (1 : Int32)) hx hb dX11_readsHour_45 (by decide) ?_
      refine lv_iadd hx hb dX11_readsHour_46 ?_
      refine g_put (ci := 11) (wn := (w_X11_readsHour cy a_this a_tape a_told w_refusals w_s w_image w_read w_met w_best w_kept w_squares w_far w_queue v_isImage v_tape (upd v_told_2 x1.toNatClampNeg ((((10 : Int32) * (v_told_2 x1.toNatClampNeg)) + r8) - (48 : Int32))) v_taped (v_at_3 + (1 : Int32)) v_wrongHour v_wrongThing v_soonest v_bestSteps)) ha hw 0 8 rfl hi_X11_readsHour_11 tyX11_ok nmX11 (by decide) (List.mem_of_getElem? (i := 2) rfl) rfl rfl rfl rfl (Nat.le_of_ble_eq_true rfl) rfl dX11_readsHour_47 (fun H locs hw => ?_)
      refine lv_iconst (v := (1 : Int32)) hx hb dX11_readsHour_50 (by decide) ?_
      exact hr _ _ (upd v_told_2 x1.toNatClampNeg ((((10 : Int32) * (v_told_2 x1.toNatClampNeg)) + r8) - (48 : Int32)), v_at_3 + (1 : Int32)) _ _ _ dX11_readsHour_51 ⟨nz1, h⟩ hw
  · have h := h.1 c4
    refine lv_iconst (v := (0 : Int32)) hx hb dX11_readsHour_8 (by decide) ?_
    exact hr _ _ (v_told_2, v_at_3) _ _ _ dX11_readsHour_9 ⟨nz0, h⟩ hw
theorem hq_X11_readsStatement : yX11_readsStatement.cls = RX11 ∧ yX11_readsStatement.cls ≠ "java/lang/invoke/MethodHandle" ∧ yX11_readsStatement.cls ≠ "java/lang/invoke/VarHandle" ∧ (parseMethodDescriptor yX11_readsStatement.desc).map (fun d => d.parameters.length) = some 0 := by decide +kernel
def w_X11_readsStatement (cy : ClassId) (a_this a_tape a_told : Nat) (w_refusals w_s w_image w_read w_met w_best w_kept w_squares w_far w_queue : Value) (v_isImage : Int32) (v_tape : IA) (v_told : IA) (v_taped : Int32) (v_at : Int32) (v_wrongHour : Int32) (v_wrongThing : Int32) (v_soonest : Int32) (v_bestSteps : Int32) : va_W := [(a_this, .inr (11, [w_refusals, w_s, w_image, w_read, .int v_isImage, .ref a_tape, .ref a_told, .int v_taped, .int v_at, w_met, .int v_wrongHour, .int v_wrongThing, w_best, w_kept, .int v_soonest, .int v_bestSteps, w_squares, w_far, w_queue])), (a_tape, .inl (cy, 48, .inl v_tape)), (a_told, .inl (cy, 4, .inl v_told))]
theorem hi_X11_readsStatement_11 : ∀ w ∈ u_ws RX11 TX11 19, w ∈ wsX11_readsStatement := fun _ h => List.mem_cons_of_mem _ (List.mem_append_right _ h)
def wp_X11_readsStatement_114 (v_tape : IA) (v_told : IA) (v_taped : Int32) (K : Int32 → IA → Int32 → Prop) (v_at : Int32) : Prop := wp_X11_takes (59 : Int32) v_tape v_taped v_at (fun (r13 : Int32) (v_at_14 : Int32) => K r13 v_told v_at_14)
set_option maxHeartbeats 4000000 in
set_option maxRecDepth 100000 in
theorem pl_X11_readsStatement_114 {p : Program} {l : Launch} {e : Env} {s : State} {m : MethodId} {args : Array Value} {below : List Frame} {meth : Method} {c : Code} {A : Nat → Prop} {Q : State → Prop} {D : va_G} {cy : ClassId} {a_this a_tape a_told : Nat} {w_refusals w_s w_image w_read w_met w_best w_kept w_squares w_far w_queue : Value} {v_isImage : Int32} {v_tape : IA} {v_told : IA} {v_taped : Int32} {v_wrongHour : Int32} {v_wrongThing : Int32} {v_soonest : Int32} {v_bestSteps : Int32} {K : Int32 → IA → Int32 → Prop} (ha : am p s m args c cX11_readsStatement 2 RX11 wsX11_readsStatement D cy A) (hr : rtI p l e { frames := 5, cells := 0, slots := 0, locals := 402 } s m args below meth c 0 0 Q cX11_readsStatement D A (fun (u : IA × Int32) => (w_X11_readsStatement cy a_this a_tape a_told w_refusals w_s w_image w_read w_met w_best w_kept w_squares w_far w_queue v_isImage v_tape u.1 v_taped u.2 v_wrongHour v_wrongThing v_soonest v_bestSteps)) (fun (r : Int32) (u : IA × Int32) => nz r ∧ K r u.1 u.2)) {v_at : Int32} {H : Heap} {locs : List Loc} {ls : Array Slot} : wp_X11_readsStatement_114 v_tape v_told v_taped K v_at → wd D A s.heap (w_X11_readsStatement cy a_this a_tape a_told w_refusals w_s w_image w_read w_met w_best w_kept w_squares w_far w_queue v_isImage v_tape v_told v_taped v_at v_wrongHour v_wrongThing v_soonest v_bestSteps) H locs → lv_has ls 2 [(0, .ref a_this)] → W p l e { frames := 5, cells := 0, slots := 0, locals := 402 } s m args below meth c H locs 0 0 Q (F0 m 114 ls []) := by
  have hx := ha.1
  have hb := ha.2.1
  intro h hw hl
  have h : wp_X11_takes (59 : Int32) v_tape v_taped v_at (fun (r13 : Int32) (v_at_14 : Int32) => K r13 v_told v_at_14) := h
  refine lv_aload_n hx hb dX11_readsStatement_114 rfl (lv_at hl 0 rfl) ?_
  refine lv_bipush (v := (59 : Int32)) hx hb dX11_readsStatement_115 (by decide) ?_
  refine g_cvi (rm := { frames := 2, cells := 0, slots := 0, locals := 148 }) (wn := (fun (u : Int32) => (w_X11_readsStatement cy a_this a_tape a_told w_refusals w_s w_image w_read w_met w_best w_kept w_squares w_far w_queue v_isImage v_tape v_told v_taped u v_wrongHour v_wrongThing v_soonest v_bestSteps))) (As := [.int (59 : Int32)]) ha hw hl.1 (c_X11_takes (cy := cy)) (cwV 1 ha.2.2.2.2.1 gX11_readsStatement_X11_takes rfl rfl rfl hq_X11_takes ⟨Nat.le_of_ble_eq_true rfl, Nat.le_of_ble_eq_true rfl⟩) [0, 1] [2] [1, 2, 0] rfl rfl rfl rfl (by decide) rfl (fun _ => rfl) rfl rfl h rfl rfl (Nat.le_of_ble_eq_true rfl) dX11_readsStatement_117 ⟨Nat.le_refl _, Nat.le_refl _⟩ (fun r13 u H locs h hw => ?_)
  obtain ⟨v_at_14, rfl⟩ : ∃ z, z = u := ⟨_, rfl⟩
  have hw : wd D A s.heap (w_X11_readsStatement cy a_this a_tape a_told w_refusals w_s w_image w_read w_met w_best w_kept w_squares w_far w_queue v_isImage v_tape v_told v_taped v_at_14 v_wrongHour v_wrongThing v_soonest v_bestSteps) H locs := hw
  obtain ⟨zr13, h⟩ := h
  try dsimp only at h
  exact hr _ _ (v_told, v_at_14) _ _ _ dX11_readsStatement_120 ⟨zr13, h⟩ hw
def wp_X11_readsStatement_62 (x1 : Int32) (v_tape : IA) (v_taped : Int32) (K : Int32 → IA → Int32 → Prop) (v_told : IA) (v_at : Int32) : Prop := wp_X11_readsDigit (1 : Int32) v_tape v_told v_taped v_at (fun (r8 : Int32) (v_told_9 : IA) (v_at_10 : Int32) => (r8 = 0 → K (0 : Int32) v_told_9 v_at_10) ∧ (¬ (r8 = 0) → (x1 = (110 : Int32) → wp_X11_takes (64 : Int32) v_tape v_taped v_at_10 (fun (r15 : Int32) (v_at_16 : Int32) => (r15 = 0 → K (0 : Int32) v_told_9 v_at_16) ∧ (¬ (r15 = 0) → wp_X11_readsHour (2 : Int32) v_tape v_told_9 v_taped v_at_16 (fun (r18 : Int32) (v_told_19 : IA) (v_at_20 : Int32) => (r18 = 0 → K (0 : Int32) v_told_19 v_at_20) ∧ (¬ (r18 = 0) → wp_X11_takes (45 : Int32) v_tape v_taped v_at_20 (fun (r22 : Int32) (v_at_23 : Int32) => (r22 = 0 → K (0 : Int32) v_told_19 v_at_23) ∧ (¬ (r22 = 0) → wp_X11_readsHour (3 : Int32) v_tape v_told_19 v_taped v_at_23 (fun (r25 : Int32) (v_told_26 : IA) (v_at_27 : Int32) => (r25 = 0 → K (0 : Int32) v_told_26 v_at_27) ∧ (¬ (r25 = 0) → wp_X11_readsStatement_114 v_tape v_told_26 v_taped K v_at_27))))))))) ∧ (¬ (x1 = (110 : Int32)) → wp_X11_readsStatement_114 v_tape v_told_9 v_taped K v_at_10)))
set_option maxHeartbeats 4000000 in
set_option maxRecDepth 100000 in
theorem pl_X11_readsStatement_62 {p : Program} {l : Launch} {e : Env} {s : State} {m : MethodId} {args : Array Value} {below : List Frame} {meth : Method} {c : Code} {A : Nat → Prop} {Q : State → Prop} {D : va_G} {cy : ClassId} {a_this a_tape a_told : Nat} {w_refusals w_s w_image w_read w_met w_best w_kept w_squares w_far w_queue : Value} {v_isImage : Int32} {v_tape : IA} {v_taped : Int32} {v_wrongHour : Int32} {v_wrongThing : Int32} {v_soonest : Int32} {v_bestSteps : Int32} {x1 : Int32} {K : Int32 → IA → Int32 → Prop} (ha : am p s m args c cX11_readsStatement 2 RX11 wsX11_readsStatement D cy A) (hr : rtI p l e { frames := 5, cells := 0, slots := 0, locals := 402 } s m args below meth c 0 0 Q cX11_readsStatement D A (fun (u : IA × Int32) => (w_X11_readsStatement cy a_this a_tape a_told w_refusals w_s w_image w_read w_met w_best w_kept w_squares w_far w_queue v_isImage v_tape u.1 v_taped u.2 v_wrongHour v_wrongThing v_soonest v_bestSteps)) (fun (r : Int32) (u : IA × Int32) => nz r ∧ K r u.1 u.2)) {v_told : IA} {v_at : Int32} {H : Heap} {locs : List Loc} {ls : Array Slot} : wp_X11_readsStatement_62 x1 v_tape v_taped K v_told v_at → wd D A s.heap (w_X11_readsStatement cy a_this a_tape a_told w_refusals w_s w_image w_read w_met w_best w_kept w_squares w_far w_queue v_isImage v_tape v_told v_taped v_at v_wrongHour v_wrongThing v_soonest v_bestSteps) H locs → lv_has ls 2 [(0, .ref a_this), (1, .int x1)] → W p l e { frames := 5, cells := 0, slots := 0, locals := 402 } s m args below meth c H locs 0 0 Q (F0 m 62 ls []) := by
  have hx := ha.1
  have hb := ha.2.1
  intro h hw hl
  have h : wp_X11_readsDigit (1 : Int32) v_tape v_told v_taped v_at (fun (r8 : Int32) (v_told_9 : IA) (v_at_10 : Int32) => (r8 = 0 → K (0 : Int32) v_told_9 v_at_10) ∧ (¬ (r8 = 0) → (x1 = (110 : Int32) → wp_X11_takes (64 : Int32) v_tape v_taped v_at_10 (fun (r15 : Int32) (v_at_16 : Int32) => (r15 = 0 → K (0 : Int32) v_told_9 v_at_16) ∧ (¬ (r15 = 0) → wp_X11_readsHour (2 : Int32) v_tape v_told_9 v_taped v_at_16 (fun (r18 : Int32) (v_told_19 : IA) (v_at_20 : Int32) => (r18 = 0 → K (0 : Int32) v_told_19 v_at_20) ∧ (¬ (r18 = 0) → wp_X11_takes (45 : Int32) v_tape v_taped v_at_20 (fun (r22 : Int32) (v_at_23 : Int32) => (r22 = 0 → K (0 : Int32) v_told_19 v_at_23) ∧ (¬ (r22 = 0) → wp_X11_readsHour (3 : Int32) v_tape v_told_19 v_taped v_at_23 (fun (r25 : Int32) (v_told_26 : IA) (v_at_27 : Int32) => (r25 = 0 → K (0 : Int32) v_told_26 v_at_27) ∧ (¬ (r25 = 0) → wp_X11_readsStatement_114 v_tape v_told_26 v_taped K v_at_27))))))))) ∧ (¬ (x1 = (110 : Int32)) → wp_X11_readsStatement_114 v_tape v_told_9 v_taped K v_at_10))) := h
  refine lv_aload_n hx hb dX11_readsStatement_62 rfl (lv_at hl 0 rfl) ?_
  refine lv_iconst (v := (1 : Int32)) hx hb dX11_readsStatement_63 (by decide) ?_
  refine g_cvi (rm := { frames := 3, cells := 0, slots := 0, locals := 232 }) (wn := (fun (u : IA × Int32) => (w_X11_readsStatement cy a_this a_tape a_told w_refusals w_s w_image w_read w_met w_best w_kept w_squares w_far w_queue v_isImage v_tape u.1 v_taped u.2 v_wrongHour v_wrongThing v_soonest v_bestSteps))) (As := [.int (1 : Int32)]) ha hw hl.1 (c_X11_readsDigit (cy := cy)) (cwV 1 ha.2.2.2.2.1 gX11_readsStatement_X11_readsDigit rfl rfl rfl hq_X11_readsDigit ⟨Nat.le_of_ble_eq_true rfl, Nat.le_of_ble_eq_true rfl⟩) [0, 1, 2] [] [0, 1, 2] rfl rfl rfl rfl (by decide) rfl (fun _ => rfl) rfl rfl h rfl rfl (Nat.le_of_ble_eq_true rfl) dX11_readsStatement_64 ⟨Nat.le_refl _, Nat.le_refl _⟩ (fun r8 u H locs h hw => ?_)
  obtain ⟨v_told_9, v_at_10⟩ := u
  have hw : wd D A s.heap (w_X11_readsStatement cy a_this a_tape a_told w_refusals w_s w_image w_read w_met w_best w_kept w_squares w_far w_queue v_isImage v_tape v_told_9 v_taped v_at_10 v_wrongHour v_wrongThing v_soonest v_bestSteps) H locs := hw
  obtain ⟨zr8, h⟩ := h
  try dsimp only at h
  refine lv_if_ne (tgt := 72) hx hb dX11_readsStatement_67 (by decide) (fun c11 => ?_) (fun c11 => ?_)
  · have h := h.2 c11
    refine lv_iload_n hx hb dX11_readsStatement_72 rfl (lv_at hl 1 rfl) ?_
    refine lv_bipush (v := (110 : Int32)) hx hb dX11_readsStatement_73 (by decide) ?_
    refine lv_icmp_ne (tgt := 114) hx hb dX11_readsStatement_75 (by decide) (fun c12 => ?_) (fun c12 => ?_)
    · have h := h.2 c12
      refine pl_X11_readsStatement_114 ha hr h hw (lv_sub hl [0] rfl)
    · have h := h.1 c12
      refine lv_aload_n hx hb dX11_readsStatement_78 rfl (lv_at hl 0 rfl) ?_
      refine lv_bipush (v := (64 : Int32)) hx hb dX11_readsStatement_79 (by decide) ?_
      refine g_cvi (rm := { frames := 2, cells := 0, slots := 0, locals := 148 }) (wn := (fun (u : Int32) => (w_X11_readsStatement cy a_this a_tape a_told w_refusals w_s w_image w_read w_met w_best w_kept w_squares w_far w_queue v_isImage v_tape v_told_9 v_taped u v_wrongHour v_wrongThing v_soonest v_bestSteps))) (As := [.int (64 : Int32)]) ha hw hl.1 (c_X11_takes (cy := cy)) (cwV 1 ha.2.2.2.2.1 gX11_readsStatement_X11_takes rfl rfl rfl hq_X11_takes ⟨Nat.le_of_ble_eq_true rfl, Nat.le_of_ble_eq_true rfl⟩) [0, 1] [2] [1, 2, 0] rfl rfl rfl rfl (by decide) rfl (fun _ => rfl) rfl rfl h rfl rfl (Nat.le_of_ble_eq_true rfl) dX11_readsStatement_81 ⟨Nat.le_refl _, Nat.le_refl _⟩ (fun r15 u H locs h hw => ?_)
      obtain ⟨v_at_16, rfl⟩ : ∃ z, z = u := ⟨_, rfl⟩
      have hw : wd D A s.heap (w_X11_readsStatement cy a_this a_tape a_told w_refusals w_s w_image w_read w_met w_best w_kept w_squares w_far w_queue v_isImage v_tape v_told_9 v_taped v_at_16 v_wrongHour v_wrongThing v_soonest v_bestSteps) H locs := hw
      obtain ⟨zr15, h⟩ := h
      try dsimp only at h
      refine lv_if_eq (tgt := 112) hx hb dX11_readsStatement_84 (by decide) (fun c17 => ?_) (fun c17 => ?_)
      · have h := h.1 c17
        refine lv_iconst (v := (0 : Int32)) hx hb dX11_readsStatement_112 (by decide) ?_
        exact hr _ _ (v_told_9, v_at_16) _ _ _ dX11_readsStatement_113 ⟨nz0, h⟩ hw
      · have h := h.2 c17
        refine lv_aload_n hx hb dX11_readsStatement_87 rfl (lv_at hl 0 rfl) ?_
        refine lv_iconst (v := (2 : Int32)) hx hb dX11_readsStatement_88 (by decide) ?_
        refine g_cvi (rm := { frames := 4, cells := 0, slots := 0, locals := 317 }) (wn := (fun (u : IA × Int32) => (w_X11_readsStatement cy a_this a_tape a_told w_refusals w_s w_image w_read w_met w_best w_kept w_squares w_far w_queue v_isImage v_tape u.1 v_taped u.2 v_wrongHour v_wrongThing v_soonest v_bestSteps))) (As := [.int (2 : Int32)]) ha hw hl.1 (c_X11_readsHour (cy := cy)) (cwV 1 ha.2.2.2.2.1 gX11_readsStatement_X11_readsHour rfl rfl rfl hq_X11_readsHour ⟨Nat.le_of_ble_eq_true rfl, Nat.le_of_ble_eq_true rfl⟩) [0, 1, 2] [] [0, 1, 2] rfl rfl rfl rfl (by decide) rfl (fun _ => rfl) rfl rfl h rfl rfl (Nat.le_of_ble_eq_true rfl) dX11_readsStatement_89 ⟨Nat.le_refl _, Nat.le_refl _⟩ (fun r18 u H locs h hw => ?_)
        obtain ⟨v_told_19, v_at_20⟩ := u
        have hw : wd D A s.heap (w_X11_readsStatement cy a_this a_tape a_told w_refusals w_s w_image w_read w_met w_best w_kept w_squares w_far w_queue v_isImage v_tape v_told_19 v_taped v_at_20 v_wrongHour v_wrongThing v_soonest v_bestSteps) H locs := hw
        obtain ⟨zr18, h⟩ := h
        try dsimp only at h
        refine lv_if_eq (tgt := 112) hx hb dX11_readsStatement_92 (by decide) (fun c21 => ?_) (fun c21 => ?_)
        · have h := h.1 c21
          refine lv_iconst (v := (0 : Int32)) hx hb dX11_readsStatement_112 (by decide) ?_
          exact hr _ _ (v_told_19, v_at_20) _ _ _ dX11_readsStatement_113 ⟨nz0, h⟩ hw
        · have h := h.2 c21
          refine lv_aload_n hx hb dX11_readsStatement_95 rfl (lv_at hl 0 rfl) ?_
          refine lv_bipush (v := (45 : Int32)) hx hb dX11_readsStatement_96 (by decide) ?_
          refine g_cvi (rm := { frames := 2, cells := 0, slots := 0, locals := 148 }) (wn := (fun (u : Int32) => (w_X11_readsStatement cy a_this a_tape a_told w_refusals w_s w_image w_read w_met w_best w_kept w_squares w_far w_queue v_isImage v_tape v_told_19 v_taped u v_wrongHour v_wrongThing v_soonest v_bestSteps))) (As := [.int (45 : Int32)]) ha hw hl.1 (c_X11_takes (cy := cy)) (cwV 1 ha.2.2.2.2.1 gX11_readsStatement_X11_takes rfl rfl rfl hq_X11_takes ⟨Nat.le_of_ble_eq_true rfl, Nat.le_of_ble_eq_true rfl⟩) [0, 1] [2] [1, 2, 0] rfl rfl rfl rfl (by decide) rfl (fun _ => rfl) rfl rfl h rfl rfl (Nat.le_of_ble_eq_true rfl) dX11_readsStatement_98 ⟨Nat.le_refl _, Nat.le_refl _⟩ (fun r22 u H locs h hw => ?_)
          obtain ⟨v_at_23, rfl⟩ : ∃ z, z = u := ⟨_, rfl⟩
          have hw : wd D A s.heap (w_X11_readsStatement cy a_this a_tape a_told w_refusals w_s w_image w_read w_met w_best w_kept w_squares w_far w_queue v_isImage v_tape v_told_19 v_taped v_at_23 v_wrongHour v_wrongThing v_soonest v_bestSteps) H locs := hw
          obtain ⟨zr22, h⟩ := h
          try dsimp only at h
          refine lv_if_eq (tgt := 112) hx hb dX11_readsStatement_101 (by decide) (fun c24 => ?_) (fun c24 => ?_)
          · have h := h.1 c24
            refine lv_iconst (v := (0 : Int32)) hx hb dX11_readsStatement_112 (by decide) ?_
            exact hr _ _ (v_told_19, v_at_23) _ _ _ dX11_readsStatement_113 ⟨nz0, h⟩ hw
          · have h := h.2 c24
            refine lv_aload_n hx hb dX11_readsStatement_104 rfl (lv_at hl 0 rfl) ?_
            refine lv_iconst (v := (3 : Int32)) hx hb dX11_readsStatement_105 (by decide) ?_
            refine g_cvi (rm := { frames := 4, cells := 0, slots := 0, locals := 317 }) (wn := (fun (u : IA × Int32) => (w_X11_readsStatement cy a_this a_tape a_told w_refusals w_s w_image w_read w_met w_best w_kept w_squares w_far w_queue v_isImage v_tape u.1 v_taped u.2 v_wrongHour v_wrongThing v_soonest v_bestSteps))) (As := [.int (3 : Int32)]) ha hw hl.1 (c_X11_readsHour (cy := cy)) (cwV 1 ha.2.2.2.2.1 gX11_readsStatement_X11_readsHour rfl rfl rfl hq_X11_readsHour ⟨Nat.le_of_ble_eq_true rfl, Nat.le_of_ble_eq_true rfl⟩) [0, 1, 2] [] [0, 1, 2] rfl rfl rfl rfl (by decide) rfl (fun _ => rfl) rfl rfl h rfl rfl (Nat.le_of_ble_eq_true rfl) dX11_readsStatement_106 ⟨Nat.le_refl _, Nat.le_refl _⟩ (fun r25 u H locs h hw => ?_)
            obtain ⟨v_told_26, v_at_27⟩ := u
            have hw : wd D A s.heap (w_X11_readsStatement cy a_this a_tape a_told w_refusals w_s w_image w_read w_met w_best w_kept w_squares w_far w_queue v_isImage v_tape v_told_26 v_taped v_at_27 v_wrongHour v_wrongThing v_soonest v_bestSteps) H locs := hw
            obtain ⟨zr25, h⟩ := h
            try dsimp only at h
            refine lv_if_ne (tgt := 114) hx hb dX11_readsStatement_109 (by decide) (fun c28 => ?_) (fun c28 => ?_)
            · have h := h.2 c28
              refine pl_X11_readsStatement_114 ha hr h hw (lv_sub hl [0] rfl)
            · have h := h.1 c28
              refine lv_iconst (v := (0 : Int32)) hx hb dX11_readsStatement_112 (by decide) ?_
              exact hr _ _ (v_told_26, v_at_27) _ _ _ dX11_readsStatement_113 ⟨nz0, h⟩ hw
  · have h := h.1 c11
    refine lv_iconst (v := (0 : Int32)) hx hb dX11_readsStatement_70 (by decide) ?_
    exact hr _ _ (v_told_9, v_at_10) _ _ _ dX11_readsStatement_71 ⟨nz0, h⟩ hw
def wp_X11_readsStatement_25 (x1 : Int32) (v_tape : IA) (v_taped : Int32) (K : Int32 → IA → Int32 → Prop) (v_told : IA) (v_at : Int32) : Prop := wp_X11_readsDigit (0 : Int32) v_tape v_told v_taped (v_at + (1 : Int32)) (fun (r3 : Int32) (v_told_4 : IA) (v_at_5 : Int32) => (r3 = 0 → K (0 : Int32) v_told_4 v_at_5) ∧ (¬ (r3 = 0) → (x1 = (114 : Int32) → wp_X11_takes (42 : Int32) v_tape v_taped v_at_5 (fun (r29 : Int32) (v_at_30 : Int32) => (r29 = 0 → K (0 : Int32) v_told_4 v_at_30) ∧ (¬ (r29 = 0) → wp_X11_readsStatement_62 x1 v_tape v_taped K v_told_4 v_at_30))) ∧ (¬ (x1 = (114 : Int32)) → wp_X11_readsStatement_62 x1 v_tape v_taped K v_told_4 v_at_5)))
set_option maxHeartbeats 4000000 in
set_option maxRecDepth 100000 in
theorem pl_X11_readsStatement_25 {p : Program} {l : Launch} {e : Env} {s : State} {m : MethodId} {args : Array Value} {below : List Frame} {meth : Method} {c : Code} {A : Nat → Prop} {Q : State → Prop} {D : va_G} {cy : ClassId} {a_this a_tape a_told : Nat} {w_refusals w_s w_image w_read w_met w_best w_kept w_squares w_far w_queue : Value} {v_isImage : Int32} {v_tape : IA} {v_taped : Int32} {v_wrongHour : Int32} {v_wrongThing : Int32} {v_soonest : Int32} {v_bestSteps : Int32} {x1 : Int32} {K : Int32 → IA → Int32 → Prop} (ha : am p s m args c cX11_readsStatement 2 RX11 wsX11_readsStatement D cy A) (hr : rtI p l e { frames := 5, cells := 0, slots := 0, locals := 402 } s m args below meth c 0 0 Q cX11_readsStatement D A (fun (u : IA × Int32) => (w_X11_readsStatement cy a_this a_tape a_told w_refusals w_s w_image w_read w_met w_best w_kept w_squares w_far w_queue v_isImage v_tape u.1 v_taped u.2 v_wrongHour v_wrongThing v_soonest v_bestSteps)) (fun (r : Int32) (u : IA × Int32) => nz r ∧ K r u.1 u.2)) {v_told : IA} {v_at : Int32} {H : Heap} {locs : List Loc} {ls : Array Slot} : wp_X11_readsStatement_25 x1 v_tape v_taped K v_told v_at → wd D A s.heap (w_X11_readsStatement cy a_this a_tape a_told w_refusals w_s w_image w_read w_met w_best w_kept w_squares w_far w_queue v_isImage v_tape v_told v_taped v_at v_wrongHour v_wrongThing v_soonest v_bestSteps) H locs → lv_has ls 2 [(0, .ref a_this), (1, .int x1)] → W p l e { frames := 5, cells := 0, slots := 0, locals := 402 } s m args below meth c H locs 0 0 Q (F0 m 25 ls []) := by
  have hx := ha.1
  have hb := ha.2.1
  intro h hw hl
  have h : wp_X11_readsDigit (0 : Int32) v_tape v_told v_taped (v_at + (1 : Int32)) (fun (r3 : Int32) (v_told_4 : IA) (v_at_5 : Int32) => (r3 = 0 → K (0 : Int32) v_told_4 v_at_5) ∧ (¬ (r3 = 0) → (x1 = (114 : Int32) → wp_X11_takes (42 : Int32) v_tape v_taped v_at_5 (fun (r29 : Int32) (v_at_30 : Int32) => (r29 = 0 → K (0 : Int32) v_told_4 v_at_30) ∧ (¬ (r29 = 0) → wp_X11_readsStatement_62 x1 v_tape v_taped K v_told_4 v_at_30))) ∧ (¬ (x1 = (114 : Int32)) → wp_X11_readsStatement_62 x1 v_tape v_taped K v_told_4 v_at_5))) := h
  refine lv_aload_n hx hb dX11_readsStatement_25 rfl (lv_at hl 0 rfl) ?_
  refine lv_dup hx hb dX11_readsStatement_26 rfl ?_
  refine g_get (ci := 11) ha hw 0 8 rfl hi_X11_readsStatement_11 (by decide) (List.mem_of_getElem? (i := 1) rfl) rfl rfl dX11_readsStatement_27 ?_
  refine lv_iconst (v := (1 : Int32)) hx hb dX11_readsStatement_30 (by decide) ?_
  refine lv_iadd hx hb dX11_readsStatement_31 ?_
  refine g_put (ci := 11) (wn := (w_X11_readsStatement cy a_this a_tape a_told w_refusals w_s w_image w_read w_met w_best w_kept w_squares w_far w_queue v_isImage v_tape v_told v_taped (v_at + (1 : Int32)) v_wrongHour v_wrongThing v_soonest v_bestSteps)) ha hw 0 8 rfl hi_X11_readsStatement_11 tyX11_ok nmX11 (by decide) (List.mem_of_getElem? (i := 1) rfl) rfl rfl rfl rfl (Nat.le_of_ble_eq_true rfl) rfl dX11_readsStatement_32 (fun H locs hw => ?_)
  refine lv_aload_n hx hb dX11_readsStatement_35 rfl (lv_at hl 0 rfl) ?_
  refine lv_iconst (v := (0 : Int32)) hx hb dX11_readsStatement_36 (by decide) ?_
  refine g_cvi (rm := { frames := 3, cells := 0, slots := 0, locals := 232 }) (wn := (fun (u : IA × Int32) => (w_X11_readsStatement cy a_this a_tape a_told w_refusals w_s w_image w_read w_met w_best w_kept w_squares w_far w_queue v_isImage v_tape u.1 v_taped u.2 v_wrongHour v_wrongThing v_soonest v_bestSteps))) (As := [.int (0 : Int32)]) ha hw hl.1 (c_X11_readsDigit (cy := cy)) (cwV 1 ha.2.2.2.2.1 gX11_readsStatement_X11_readsDigit rfl rfl rfl hq_X11_readsDigit ⟨Nat.le_of_ble_eq_true rfl, Nat.le_of_ble_eq_true rfl⟩) [0, 1, 2] [] [0, 1, 2] rfl rfl rfl rfl (by decide) rfl (fun _ => rfl) rfl rfl h rfl rfl (Nat.le_of_ble_eq_true rfl) dX11_readsStatement_37 ⟨Nat.le_refl _, Nat.le_refl _⟩ (fun r3 u H locs h hw => ?_)
  obtain ⟨v_told_4, v_at_5⟩ := u
  have hw : wd D A s.heap (w_X11_readsStatement cy a_this a_tape a_told w_refusals w_s w_image w_read w_met w_best w_kept w_squares w_far w_queue v_isImage v_tape v_told_4 v_taped v_at_5 v_wrongHour v_wrongThing v_soonest v_bestSteps) H locs := hw
  obtain ⟨zr3, h⟩ := h
  try dsimp only at h
  refine lv_if_ne (tgt := 45) hx hb dX11_readsStatement_40 (by decide) (fun c6 => ?_) (fun c6 => ?_)
  · have h := h.2 c6
    refine lv_iload_n hx hb dX11_readsStatement_45 rfl (lv_at hl 1 rfl) ?_
    refine lv_bipush (v := (114 : Int32)) hx hb dX11_readsStatement_46 (by decide) ?_
    refine lv_icmp_ne (tgt := 62) hx hb dX11_readsStatement_48 (by decide) (fun c7 => ?_) (fun c7 => ?_)
    · have h := h.2 c7
      refine pl_X11_readsStatement_62 ha hr h hw (lv_sub hl [0, 1] rfl)
    · have h := h.1 c7
      refine lv_aload_n hx hb dX11_readsStatement_51 rfl (lv_at hl 0 rfl) ?_
      refine lv_bipush (v := (42 : Int32)) hx hb dX11_readsStatement_52 (by decide) ?_
      refine g_cvi (rm := { frames := 2, cells := 0, slots := 0, locals := 148 }) (wn := (fun (u : Int32) => (w_X11_readsStatement cy a_this a_tape a_told w_refusals w_s w_image w_read w_met w_best w_kept w_squares w_far w_queue v_isImage v_tape v_told_4 v_taped u v_wrongHour v_wrongThing v_soonest v_bestSteps))) (As := [.int (42 : Int32)]) ha hw hl.1 (c_X11_takes (cy := cy)) (cwV 1 ha.2.2.2.2.1 gX11_readsStatement_X11_takes rfl rfl rfl hq_X11_takes ⟨Nat.le_of_ble_eq_true rfl, Nat.le_of_ble_eq_true rfl⟩) [0, 1] [2] [1, 2, 0] rfl rfl rfl rfl (by decide) rfl (fun _ => rfl) rfl rfl h rfl rfl (Nat.le_of_ble_eq_true rfl) dX11_readsStatement_54 ⟨Nat.le_refl _, Nat.le_refl _⟩ (fun r29 u H locs h hw => ?_)
      obtain ⟨v_at_30, rfl⟩ : ∃ z, z = u := ⟨_, rfl⟩
      have hw : wd D A s.heap (w_X11_readsStatement cy a_this a_tape a_told w_refusals w_s w_image w_read w_met w_best w_kept w_squares w_far w_queue v_isImage v_tape v_told_4 v_taped v_at_30 v_wrongHour v_wrongThing v_soonest v_bestSteps) H locs := hw
      obtain ⟨zr29, h⟩ := h
      try dsimp only at h
      refine lv_if_ne (tgt := 62) hx hb dX11_readsStatement_57 (by decide) (fun c31 => ?_) (fun c31 => ?_)
      · have h := h.2 c31
        refine pl_X11_readsStatement_62 ha hr h hw (lv_sub hl [0, 1] rfl)
      · have h := h.1 c31
        refine lv_iconst (v := (0 : Int32)) hx hb dX11_readsStatement_60 (by decide) ?_
        exact hr _ _ (v_told_4, v_at_30) _ _ _ dX11_readsStatement_61 ⟨nz0, h⟩ hw
  · have h := h.1 c6
    refine lv_iconst (v := (0 : Int32)) hx hb dX11_readsStatement_43 (by decide) ?_
    exact hr _ _ (v_told_4, v_at_5) _ _ _ dX11_readsStatement_44 ⟨nz0, h⟩ hw
def wp_X11_readsStatement (v_tape : IA) (v_told : IA) (v_taped : Int32) (v_at : Int32) (K : Int32 → IA → Int32 → Prop) : Prop := wp_X11_sign v_tape v_taped v_at (fun (r1 : Int32) => (r1 = (114 : Int32) → wp_X11_readsStatement_25 r1 v_tape v_taped K v_told v_at) ∧ (¬ (r1 = (114 : Int32)) → (r1 = (100 : Int32) → wp_X11_readsStatement_25 r1 v_tape v_taped K v_told v_at) ∧ (¬ (r1 = (100 : Int32)) → (r1 = (110 : Int32) → wp_X11_readsStatement_25 r1 v_tape v_taped K v_told v_at) ∧ (¬ (r1 = (110 : Int32)) → K (0 : Int32) v_told v_at))))
set_option maxHeartbeats 4000000 in
set_option maxRecDepth 100000 in
theorem c_X11_readsStatement {l : Launch} {D : va_G} {cy : ClassId} {a_this a_tape a_told : Nat} {w_refusals w_s w_image w_read w_met w_best w_kept w_squares w_far w_queue : Value} {v_isImage : Int32} {v_tape : IA} {v_told : IA} {v_taped : Int32} {v_at : Int32} {v_wrongHour : Int32} {v_wrongThing : Int32} {v_soonest : Int32} {v_bestSteps : Int32} {K : Int32 → IA → Int32 → Prop} : CtI l yX11_readsStatement wsX11_readsStatement { frames := 5, cells := 0, slots := 0, locals := 402 } 0 0 D cy [.ref a_this] (w_X11_readsStatement cy a_this a_tape a_told w_refusals w_s w_image w_read w_met w_best w_kept w_squares w_far w_queue v_isImage v_tape v_told v_taped v_at v_wrongHour v_wrongThing v_soonest v_bestSteps) (wp_X11_readsStatement v_tape v_told v_taped v_at K) (fun (u : IA × Int32) => (w_X11_readsStatement cy a_this a_tape a_told w_refusals w_s w_image w_read w_met w_best w_kept w_squares w_far w_queue v_isImage v_tape u.1 v_taped u.2 v_wrongHour v_wrongThing v_soonest v_bestSteps)) (fun (r : Int32) (u : IA × Int32) => nz r ∧ K r u.1 u.2) := by
  refine CtI.mk (cc := cX11_readsStatement) (nL := 2) (ty := .boolean) (by decide) rfl (Nat.le_of_ble_eq_true rfl) (fun r u h => h.1.nar) ?_
  intro p e s m args below meth c A Q ha hr _ h ls hl hw
  have ha : am p s m args c cX11_readsStatement 2 RX11 wsX11_readsStatement D cy A := ha
  have hx := ha.1
  have hb := ha.2.1
  have hl : lv_has ls 2 [(0, .ref a_this)] := hl
  have h : wp_X11_sign v_tape v_taped v_at (fun (r1 : Int32) => (r1 = (114 : Int32) → wp_X11_readsStatement_25 r1 v_tape v_taped K v_told v_at) ∧ (¬ (r1 = (114 : Int32)) → (r1 = (100 : Int32) → wp_X11_readsStatement_25 r1 v_tape v_taped K v_told v_at) ∧ (¬ (r1 = (100 : Int32)) → (r1 = (110 : Int32) → wp_X11_readsStatement_25 r1 v_tape v_taped K v_told v_at) ∧ (¬ (r1 = (110 : Int32)) → K (0 : Int32) v_told v_at)))) := h
  refine lv_aload_n hx hb dX11_readsStatement_0 rfl (lv_at hl 0 rfl) ?_
  refine g_cvi (rm := { frames := 1, cells := 0, slots := 0, locals := 64 }) (wn := (fun (u : Unit) => (w_X11_readsStatement cy a_this a_tape a_told w_refusals w_s w_image w_read w_met w_best w_kept w_squares w_far w_queue v_isImage v_tape v_told v_taped v_at v_wrongHour v_wrongThing v_soonest v_bestSteps))) (As := []) ha hw hl.1 (c_X11_sign (cy := cy)) (cwV 0 ha.2.2.2.2.1 gX11_readsStatement_X11_sign rfl rfl rfl hq_X11_sign ⟨Nat.le_of_ble_eq_true rfl, Nat.le_of_ble_eq_true rfl⟩) [0, 1] [2] [1, 2, 0] rfl rfl rfl rfl (by decide) rfl (fun _ => rfl) rfl rfl h rfl rfl (Nat.le_of_ble_eq_true rfl) dX11_readsStatement_1 ⟨Nat.le_refl _, Nat.le_refl _⟩ (fun r1 u H locs h hw => ?_)
  have hw : wd D A s.heap (w_X11_readsStatement cy a_this a_tape a_told w_refusals w_s w_image w_read w_met w_best w_kept w_squares w_far w_queue v_isImage v_tape v_told v_taped v_at v_wrongHour v_wrongThing v_soonest v_bestSteps) H locs := hw
  try dsimp only at h
  refine lv_istore_n (lv' := [(1, .int r1), (0, .ref a_this)]) hx hb dX11_readsStatement_4 rfl hl (by decide) rfl (fun ls hl => ?_)
  refine lv_iload_n hx hb dX11_readsStatement_5 rfl (lv_at hl 0 rfl) ?_
  refine lv_bipush (v := (114 : Int32)) hx hb dX11_readsStatement_6 (by decide) ?_
  refine lv_icmp_eq (tgt := 25) hx hb dX11_readsStatement_8 (by decide) (fun c2 => ?_) (fun c2 => ?_)
  · have h := h.1 c2
    refine pl_X11_readsStatement_25 ha hr h hw (lv_sub hl [1, 0] rfl)
  · have h := h.2 c2
    refine lv_iload_n hx hb dX11_readsStatement_11 rfl (lv_at hl 0 rfl) ?_
    refine lv_bipush (v := (100 : Int32)) hx hb dX11_readsStatement_12 (by decide) ?_
    refine lv_icmp_eq (tgt := 25) hx hb dX11_readsStatement_14 (by decide) (fun c32 => ?_) (fun c32 => ?_)
    · have h := h.1 c32
      refine pl_X11_readsStatement_25 ha hr h hw (lv_sub hl [1, 0] rfl)
    · have h := h.2 c32
      refine lv_iload_n hx hb dX11_readsStatement_17 rfl (lv_at hl 0 rfl) ?_
      refine lv_bipush (v := (110 : Int32)) hx hb dX11_readsStatement_18 (by decide) ?_
      refine lv_icmp_eq (tgt := 25) hx hb dX11_readsStatement_20 (by decide) (fun c33 => ?_) (fun c33 => ?_)
      · have h := h.1 c33
        refine pl_X11_readsStatement_25 ha hr h hw (lv_sub hl [1, 0] rfl)
      · have h := h.2 c33
        refine lv_iconst (v := (0 : Int32)) hx hb dX11_readsStatement_23 (by decide) ?_
        exact hr _ _ (v_told, v_at) _ _ _ dX11_readsStatement_24 ⟨nz0, h⟩ hw
theorem hq_X11_isDoor : yX11_isDoor.cls ≠ "java/lang/invoke/MethodHandle" ∧ yX11_isDoor.cls ≠ "java/lang/invoke/VarHandle" ∧ (parseMethodDescriptor yX11_isDoor.desc).map (fun d => d.parameters.length) = some 3 := by decide +kernel
def w_X11_isDoor (cy : ClassId) (a_o1 : Nat) (n_o1 : Nat) (v_o1 : IA) : va_W := [(a_o1, .inl (cy, n_o1, .inl v_o1))]
def wp_X11_isDoor_43 (x1 : Int32) (x2 : Int32) (x4 : Int32) (x5 : Int32) (n_o1 : Nat) (E2 : Int32 → Prop) (K : Int32 → Prop) (x3 : Int32) : Prop := (x4 = x2 → (x5 = x1 → K (1 : Int32)) ∧ (¬ (x5 = x1) → E2 (x3 + (1 : Int32)))) ∧ (¬ (x4 = x2) → E2 (x3 + (1 : Int32)))
set_option maxHeartbeats 4000000 in
set_option maxRecDepth 100000 in
theorem pl_X11_isDoor_43 {p : Program} {l : Launch} {e : Env} {s : State} {m : MethodId} {args : Array Value} {below : List Frame} {meth : Method} {c : Code} {A : Nat → Prop} {Q : State → Prop} {D : va_G} {cy : ClassId} {a_o1 : Nat} {n_o1 : Nat} {v_o1 : IA} {x1 : Int32} {x2 : Int32} {x4 : Int32} {x5 : Int32} {K : Int32 → Prop} {E2 : Int32 → Prop} (ha : am p s m args c cX11_isDoor 6 RX11 wsX11_isDoor D cy A) (hr : rtI p l e { frames := 1, cells := 0, slots := 0, locals := 64 } s m args below meth c 0 0 Q cX11_isDoor D A (fun (u : Unit) => (w_X11_isDoor cy a_o1 n_o1 v_o1)) (fun (r : Int32) (u : Unit) => nz r ∧ K r)) (hE2 : ∀ (x3' : Int32) (H : Heap) (locs : List Loc) (ls : Array Slot), E2 x3' → wd D A s.heap (w_X11_isDoor cy a_o1 n_o1 v_o1) H locs → lv_has ls 6 [(0, .ref a_o1), (1, .int x1), (2, .int x2), (3, .int x3')] → W p l e { frames := 1, cells := 0, slots := 0, locals := 64 } s m args below meth c H locs 0 0 Q (F0 m 2 ls [])) {x3 : Int32} {H : Heap} {locs : List Loc} {ls : Array Slot} : wp_X11_isDoor_43 x1 x2 x4 x5 n_o1 E2 K x3 → wd D A s.heap (w_X11_isDoor cy a_o1 n_o1 v_o1) H locs → lv_has ls 6 [(0, .ref a_o1), (1, .int x1), (2, .int x2), (3, .int x3), (4, .int x4), (5, .int x5)] → W p l e { frames := 1, cells := 0, slots := 0, locals := 64 } s m args below meth c H locs 0 0 Q (F0 m 43 ls []) := by
  have hx := ha.1
  have hb := ha.2.1
  intro h hw hl
  have h : (x4 = x2 → (x5 = x1 → K (1 : Int32)) ∧ (¬ (x5 = x1) → E2 (x3 + (1 : Int32)))) ∧ (¬ (x4 = x2) → E2 (x3 + (1 : Int32))) := h
  refine lv_iload hx hb dX11_isDoor_43 (lv_at hl 4 rfl) ?_
  refine lv_iload_n hx hb dX11_isDoor_45 rfl (lv_at hl 2 rfl) ?_
  refine lv_icmp_ne (tgt := 57) hx hb dX11_isDoor_46 (by decide) (fun c8 => ?_) (fun c8 => ?_)
  · have h := h.2 c8
    refine lv_iinc (v := x3 + (1 : Int32)) (lv' := [(3, .int (x3 + (1 : Int32))), (0, .ref a_o1), (1, .int x1), (2, .int x2), (4, .int x4), (5, .int x5)]) hx hb dX11_isDoor_57 hl (k := 3) rfl rfl (by decide) rfl (fun ls hl => ?_)
    refine lv_goto (tgt := 2) hx hb dX11_isDoor_60 (by decide) ?_
    exact hE2 _ _ _ _ h hw (lv_sub hl [1, 2, 3, 0] rfl)
  · have h := h.1 c8
    refine lv_iload hx hb dX11_isDoor_49 (lv_at hl 5 rfl) ?_
    refine lv_iload_n hx hb dX11_isDoor_51 rfl (lv_at hl 1 rfl) ?_
    refine lv_icmp_ne (tgt := 57) hx hb dX11_isDoor_52 (by decide) (fun c9 => ?_) (fun c9 => ?_)
    · have h := h.2 c9
      refine lv_iinc (v := x3 + (1 : Int32)) (lv' := [(3, .int (x3 + (1 : Int32))), (0, .ref a_o1), (1, .int x1), (2, .int x2), (4, .int x4), (5, .int x5)]) hx hb dX11_isDoor_57 hl (k := 3) rfl rfl (by decide) rfl (fun ls hl => ?_)
      refine lv_goto (tgt := 2) hx hb dX11_isDoor_60 (by decide) ?_
      exact hE2 _ _ _ _ h hw (lv_sub hl [1, 2, 3, 0] rfl)
    · have h := h.1 c9
      refine lv_iconst (v := (1 : Int32)) hx hb dX11_isDoor_55 (by decide) ?_
      exact hr _ _ () _ _ _ dX11_isDoor_56 ⟨nz1, h⟩ hw
def wp_X11_isDoor_2 (x1 : Int32) (x2 : Int32) (n_o1 : Nat) (v_o1 : IA) (K : Int32 → Prop) : Nat → Int32 → Prop
  | 0, _ => False
  | n + 1, x3 => vp_in (1 : Int32) n_o1 ∧ (((v_o1 (1 : Int32).toNatClampNeg) ≤ x3 → K (0 : Int32)) ∧ (¬ ((v_o1 (1 : Int32).toNatClampNeg) ≤ x3) → vp_in ((21 : Int32) + ((2 : Int32) * x3)) n_o1 ∧ (∀ x4_4 : Int32, x4_4 = v_o1 ((21 : Int32) + ((2 : Int32) * x3)).toNatClampNeg → vp_in (((21 : Int32) + ((2 : Int32) * x3)) + (1 : Int32)) n_o1 ∧ (∀ x5_6 : Int32, x5_6 = v_o1 (((21 : Int32) + ((2 : Int32) * x3)) + (1 : Int32)).toNatClampNeg → (x4_4 = x1 → (x5_6 = x2 → K (1 : Int32)) ∧ (¬ (x5_6 = x2) → wp_X11_isDoor_43 x1 x2 x4_4 x5_6 n_o1 (fun (x3_12 : Int32) => wp_X11_isDoor_2 x1 x2 n_o1 v_o1 K n x3_12) K x3)) ∧ (¬ (x4_4 = x1) → wp_X11_isDoor_43 x1 x2 x4_4 x5_6 n_o1 (fun (x3_10 : Int32) => wp_X11_isDoor_2 x1 x2 n_o1 v_o1 K n x3_10) K x3)))))
set_option maxHeartbeats 4000000 in
set_option maxRecDepth 100000 in
theorem pl_X11_isDoor_2 {p : Program} {l : Launch} {e : Env} {s : State} {m : MethodId} {args : Array Value} {below : List Frame} {meth : Method} {c : Code} {A : Nat → Prop} {Q : State → Prop} {D : va_G} {cy : ClassId} {a_o1 : Nat} {n_o1 : Nat} {v_o1 : IA} {x1 : Int32} {x2 : Int32} {K : Int32 → Prop} (ha : am p s m args c cX11_isDoor 6 RX11 wsX11_isDoor D cy A) (hr : rtI p l e { frames := 1, cells := 0, slots := 0, locals := 64 } s m args below meth c 0 0 Q cX11_isDoor D A (fun (u : Unit) => (w_X11_isDoor cy a_o1 n_o1 v_o1)) (fun (r : Int32) (u : Unit) => nz r ∧ K r)) : ∀ (n : Nat) (x3 : Int32) (H : Heap) (locs : List Loc) (ls : Array Slot), wp_X11_isDoor_2 x1 x2 n_o1 v_o1 K n x3 → wd D A s.heap (w_X11_isDoor cy a_o1 n_o1 v_o1) H locs → lv_has ls 6 [(0, .ref a_o1), (1, .int x1), (2, .int x2), (3, .int x3)] → W p l e { frames := 1, cells := 0, slots := 0, locals := 64 } s m args below meth c H locs 0 0 Q (F0 m 2 ls []) := by
  have hx := ha.1
  have hb := ha.2.1
  intro n
  induction n with
  | zero => exact fun _ _ _ _ h _ _ => False.elim h
  | succ n ih =>
    intro x3 H locs ls h hw hl
    have h : vp_in (1 : Int32) n_o1 ∧ (((v_o1 (1 : Int32).toNatClampNeg) ≤ x3 → K (0 : Int32)) ∧ (¬ ((v_o1 (1 : Int32).toNatClampNeg) ≤ x3) → vp_in ((21 : Int32) + ((2 : Int32) * x3)) n_o1 ∧ (∀ x4_4 : Int32, x4_4 = v_o1 ((21 : Int32) + ((2 : Int32) * x3)).toNatClampNeg → vp_in (((21 : Int32) + ((2 : Int32) * x3)) + (1 : Int32)) n_o1 ∧ (∀ x5_6 : Int32, x5_6 = v_o1 (((21 : Int32) + ((2 : Int32) * x3)) + (1 : Int32)).toNatClampNeg → (x4_4 = x1 → (x5_6 = x2 → K (1 : Int32)) ∧ (¬ (x5_6 = x2) → wp_X11_isDoor_43 x1 x2 x4_4 x5_6 n_o1 (fun (x3_12 : Int32) => wp_X11_isDoor_2 x1 x2 n_o1 v_o1 K n x3_12) K x3)) ∧ (¬ (x4_4 = x1) → wp_X11_isDoor_43 x1 x2 x4_4 x5_6 n_o1 (fun (x3_10 : Int32) => wp_X11_isDoor_2 x1 x2 n_o1 v_o1 K n x3_10) K x3))))) := h
    refine lv_iload_n hx hb dX11_isDoor_2 rfl (lv_at hl 3 rfl) ?_
    refine lv_aload_n hx hb dX11_isDoor_3 rfl (lv_at hl 0 rfl) ?_
    refine lv_iconst (v := (1 : Int32)) hx hb dX11_isDoor_4 (by decide) ?_
    obtain ⟨z1, h⟩ := h
    refine g_ald ha hw 0 rfl z1 dX11_isDoor_5 ?_
    refine lv_icmp_ge (tgt := 63) hx hb dX11_isDoor_6 (by decide) (fun c2 => ?_) (fun c2 => ?_)
    · have h := h.1 c2
      refine lv_iconst (v := (0 : Int32)) hx hb dX11_isDoor_63 (by decide) ?_
      exact hr _ _ () _ _ _ dX11_isDoor_64 ⟨nz0, h⟩ hw
    · have h := h.2 c2
      refine lv_aload_n hx hb dX11_isDoor_9 rfl (lv_at hl 0 rfl) ?_
      refine lv_bipush (v := (21 : Int32)) hx hb dX11_isDoor_10 (by decide) ?_
      refine lv_iconst (v := (2 : Int32)) hx hb dX11_isDoor_12 (by decide) ?_
      refine lv_iload_n hx hb dX11_isDoor_13 rfl (lv_at hl 3 rfl) ?_
      refine lv_imul hx hb dX11_isDoor_14 ?_
      refine lv_iadd hx hb dX11_isDoor_15 ?_
      obtain ⟨z3, h⟩ := h
      refine g_ald ha hw 0 rfl z3 dX11_isDoor_16 ?_
      refine lv_topi (fun x4_4 ex4_4 => ?_)
      have h := h x4_4 ex4_4
      refine lv_istore (lv' := [(4, .int x4_4), (0, .ref a_o1), (1, .int x1), (2, .int x2), (3, .int x3)]) hx hb dX11_isDoor_17 hl (by decide) rfl (fun ls hl => ?_)
      refine lv_aload_n hx hb dX11_isDoor_19 rfl (lv_at hl 1 rfl) ?_
      refine lv_bipush (v := (21 : Int32)) hx hb dX11_isDoor_20 (by decide) ?_
      refine lv_iconst (v := (2 : Int32)) hx hb dX11_isDoor_22 (by decide) ?_
      refine lv_iload_n hx hb dX11_isDoor_23 rfl (lv_at hl 4 rfl) ?_
      refine lv_imul hx hb dX11_isDoor_24 ?_
      refine lv_iadd hx hb dX11_isDoor_25 ?_
      refine lv_iconst (v := (1 : Int32)) hx hb dX11_isDoor_26 (by decide) ?_
      refine lv_iadd hx hb dX11_isDoor_27 ?_
      obtain ⟨z5, h⟩ := h
      refine g_ald ha hw 0 rfl z5 dX11_isDoor_28 ?_
      refine lv_topi (fun x5_6 ex5_6 => ?_)
      have h := h x5_6 ex5_6
      refine lv_istore (lv' := [(5, .int x5_6), (4, .int x4_4), (0, .ref a_o1), (1, .int x1), (2, .int x2), (3, .int x3)]) hx hb dX11_isDoor_29 hl (by decide) rfl (fun ls hl => ?_)
      refine lv_iload hx hb dX11_isDoor_31 (lv_at hl 1 rfl) ?_
      refine lv_iload_n hx hb dX11_isDoor_33 rfl (lv_at hl 3 rfl) ?_
      refine lv_icmp_ne (tgt := 43) hx hb dX11_isDoor_34 (by decide) (fun c7 => ?_) (fun c7 => ?_)
      · have h := h.2 c7
        refine pl_X11_isDoor_43 ha hr ?_ h hw (lv_sub hl [2, 3, 4, 5, 1, 0] rfl)
        · intro x3_10 H locs ls h hw hl
          try dsimp only at h
          exact ih _ _ _ _ h hw (lv_sub hl [0, 1, 2, 3] rfl)
      · have h := h.1 c7
        refine lv_iload hx hb dX11_isDoor_37 (lv_at hl 0 rfl) ?_
        refine lv_iload_n hx hb dX11_isDoor_39 rfl (lv_at hl 4 rfl) ?_
        refine lv_icmp_eq (tgt := 55) hx hb dX11_isDoor_40 (by decide) (fun c11 => ?_) (fun c11 => ?_)
        · have h := h.1 c11
          refine lv_iconst (v := (1 : Int32)) hx hb dX11_isDoor_55 (by decide) ?_
          exact hr _ _ () _ _ _ dX11_isDoor_56 ⟨nz1, h⟩ hw
        · have h := h.2 c11
          refine pl_X11_isDoor_43 ha hr ?_ h hw (lv_sub hl [2, 3, 4, 5, 1, 0] rfl)
          · intro x3_12 H locs ls h hw hl
            try dsimp only at h
            exact ih _ _ _ _ h hw (lv_sub hl [0, 1, 2, 3] rfl)
def wp_X11_isDoor (x1 : Int32) (x2 : Int32) (n_o1 : Nat) (v_o1 : IA) (K : Int32 → Prop) : Prop := ∃ n13 : Nat, wp_X11_isDoor_2 x1 x2 n_o1 v_o1 K n13 (0 : Int32)
set_option maxHeartbeats 4000000 in
set_option maxRecDepth 100000 in
theorem c_X11_isDoor {l : Launch} {D : va_G} {cy : ClassId} {a_o1 : Nat} {n_o1 : Nat} {v_o1 : IA} {x1 : Int32} {x2 : Int32} {K : Int32 → Prop} : CtI l yX11_isDoor wsX11_isDoor { frames := 1, cells := 0, slots := 0, locals := 64 } 0 0 D cy [.ref a_o1, .int x1, .int x2] (w_X11_isDoor cy a_o1 n_o1 v_o1) (wp_X11_isDoor x1 x2 n_o1 v_o1 K) (fun (u : Unit) => (w_X11_isDoor cy a_o1 n_o1 v_o1)) (fun (r : Int32) (u : Unit) => nz r ∧ K r) := by
  refine CtI.mk (cc := cX11_isDoor) (nL := 6) (ty := .boolean) (by decide) rfl (Nat.le_of_ble_eq_true rfl) (fun r u h => h.1.nar) ?_
  intro p e s m args below meth c A Q ha hr _ h ls hl hw
  have ha : am p s m args c cX11_isDoor 6 RX11 wsX11_isDoor D cy A := ha
  have hx := ha.1
  have hb := ha.2.1
  have hl : lv_has ls 6 [(0, .ref a_o1), (1, .int x1), (2, .int x2)] := hl
  have h : ∃ n13 : Nat, wp_X11_isDoor_2 x1 x2 n_o1 v_o1 K n13 (0 : Int32) := h
  refine lv_iconst (v := (0 : Int32)) hx hb dX11_isDoor_0 (by decide) ?_
  refine lv_istore_n (lv' := [(3, .int (0 : Int32)), (0, .ref a_o1), (1, .int x1), (2, .int x2)]) hx hb dX11_isDoor_1 rfl hl (by decide) rfl (fun ls hl => ?_)
  obtain ⟨n9, h⟩ := h
  refine pl_X11_isDoor_2 ha hr n9 _ _ _ _ h hw (lv_sub hl [1, 2, 3, 0] rfl)
theorem hq_X11_comes : yX11_comes.cls = RX11 ∧ yX11_comes.cls ≠ "java/lang/invoke/MethodHandle" ∧ yX11_comes.cls ≠ "java/lang/invoke/VarHandle" ∧ (parseMethodDescriptor yX11_comes.desc).map (fun d => d.parameters.length) = some 1 := by decide +kernel
def w_X11_comes (cy : ClassId) (a_this a_read a_told : Nat) (w_refusals w_s w_image w_tape w_met w_best w_kept w_squares w_far w_queue : Value) (v_read : IA) (v_isImage : Int32) (v_told : IA) (v_taped : Int32) (v_at : Int32) (v_wrongHour : Int32) (v_wrongThing : Int32) (v_soonest : Int32) (v_bestSteps : Int32) : va_W := [(a_this, .inr (11, [w_refusals, w_s, w_image, .ref a_read, .int v_isImage, w_tape, .ref a_told, .int v_taped, .int v_at, w_met, .int v_wrongHour, .int v_wrongThing, w_best, w_kept, .int v_soonest, .int v_bestSteps, w_squares, w_far, w_queue])), (a_read, .inl (cy, 120, .inl v_read)), (a_told, .inl (cy, 4, .inl v_told))]
theorem hi_X11_comes_11 : ∀ w ∈ u_ws RX11 TX11 19, w ∈ wsX11_comes := fun _ h => List.mem_cons_of_mem _ (List.mem_append_right _ h)
def wp_X11_comes_277 (v_told : IA) (K : Int32 → IA → Prop) : Nat → Int32 → IA → Prop
  | 0, _, _ => False
  | n + 1, x2, v_read => ((4 : Int32) ≤ x2 → K (1 : Int32) (upd v_read (2 : Int32).toNatClampNeg ((v_read (2 : Int32).toNatClampNeg) + (1 : Int32)))) ∧ (¬ ((4 : Int32) ≤ x2) → vp_in x2 4 ∧ (vp_in (((45 : Int32) + ((4 : Int32) * (v_read (2 : Int32).toNatClampNeg))) + x2) 120 ∧ (wp_X11_comes_277 v_told K n (x2 + (1 : Int32)) (upd v_read (((45 : Int32) + ((4 : Int32) * (v_read (2 : Int32).toNatClampNeg))) + x2).toNatClampNeg (v_told x2.toNatClampNeg)))))
set_option maxHeartbeats 4000000 in
set_option maxRecDepth 100000 in
theorem pl_X11_comes_277 {p : Program} {l : Launch} {e : Env} {s : State} {m : MethodId} {args : Array Value} {below : List Frame} {meth : Method} {c : Code} {A : Nat → Prop} {Q : State → Prop} {D : va_G} {cy : ClassId} {a_this a_read a_told : Nat} {w_refusals w_s w_image w_tape w_met w_best w_kept w_squares w_far w_queue : Value} {v_isImage : Int32} {v_told : IA} {v_taped : Int32} {v_at : Int32} {v_wrongHour : Int32} {v_wrongThing : Int32} {v_soonest : Int32} {v_bestSteps : Int32} {K : Int32 → IA → Prop} (ha : am p s m args c cX11_comes 3 RX11 wsX11_comes D cy A) (hr : rtI p l e { frames := 2, cells := 0, slots := 0, locals := 153 } s m args below meth c 0 0 Q cX11_comes D A (fun (u : IA) => (w_X11_comes cy a_this a_read a_told w_refusals w_s w_image w_tape w_met w_best w_kept w_squares w_far w_queue u v_isImage v_told v_taped v_at v_wrongHour v_wrongThing v_soonest v_bestSteps)) (fun (r : Int32) (u : IA) => nz r ∧ K r u)) : ∀ (n : Nat) (x2 : Int32) (v_read : IA) (H : Heap) (locs : List Loc) (ls : Array Slot), wp_X11_comes_277 v_told K n x2 v_read → wd D A s.heap (w_X11_comes cy a_this a_read a_told w_refusals w_s w_image w_tape w_met w_best w_kept w_squares w_far w_queue v_read v_isImage v_told v_taped v_at v_wrongHour v_wrongThing v_soonest v_bestSteps) H locs → lv_has ls 3 [(0, .ref a_this), (2, .int x2)] → W p l e { frames := 2, cells := 0, slots := 0, locals := 153 } s m args below meth c H locs 0 0 Q (F0 m 277 ls []) := by
  have hx := ha.1
  have hb := ha.2.1
  intro n
  induction n with
  | zero => exact fun _ _ _ _ _ h _ _ => False.elim h
  | succ n ih =>
    intro x2 v_read H locs ls h hw hl
    have h : ((4 : Int32) ≤ x2 → K (1 : Int32) (upd v_read (2 : Int32).toNatClampNeg ((v_read (2 : Int32).toNatClampNeg) + (1 : Int32)))) ∧ (¬ ((4 : Int32) ≤ x2) → vp_in x2 4 ∧ (vp_in (((45 : Int32) + ((4 : Int32) * (v_read (2 : Int32).toNatClampNeg))) + x2) 120 ∧ (wp_X11_comes_277 v_told K n (x2 + (1 : Int32)) (upd v_read (((45 : Int32) + ((4 : Int32) * (v_read (2 : Int32).toNatClampNeg))) + x2).toNatClampNeg (v_told x2.toNatClampNeg))))) := h
    refine lv_iload_n hx hb dX11_comes_277 rfl (lv_at hl 1 rfl) ?_
    refine lv_iconst (v := (4 : Int32)) hx hb dX11_comes_278 (by decide) ?_
    refine lv_icmp_ge (tgt := 312) hx hb dX11_comes_279 (by decide) (fun c8 => ?_) (fun c8 => ?_)
    · have h := h.1 c8
      refine lv_aload_n hx hb dX11_comes_312 rfl (lv_at hl 0 rfl) ?_
      refine g_get (ci := 11) ha hw 0 3 rfl hi_X11_comes_11 (by decide) (List.mem_of_getElem? (i := 2) rfl) rfl rfl dX11_comes_313 ?_
      refine lv_iconst (v := (2 : Int32)) hx hb dX11_comes_316 (by decide) ?_
      refine lv_dup2_11 hx hb dX11_comes_317 rfl rfl ?_
      refine g_ald ha hw 1 rfl (vp_in_iff.mpr (by decide)) dX11_comes_318 ?_
      refine lv_iconst (v := (1 : Int32)) hx hb dX11_comes_319 (by decide) ?_
      refine lv_iadd hx hb dX11_comes_320 ?_
      refine g_ast (wn := (w_X11_comes cy a_this a_read a_told w_refusals w_s w_image w_tape w_met w_best w_kept w_squares w_far w_queue (upd v_read (2 : Int32).toNatClampNeg ((v_read (2 : Int32).toNatClampNeg) + (1 : Int32))) v_isImage v_told v_taped v_at v_wrongHour v_wrongThing v_soonest v_bestSteps)) ha hw 1 rfl (vp_in_iff.mpr (by decide)) rfl dX11_comes_321 (fun H locs hw => ?_)
      refine lv_iconst (v := (1 : Int32)) hx hb dX11_comes_322 (by decide) ?_
      exact hr _ _ (upd v_read (2 : Int32).toNatClampNeg ((v_read (2 : Int32).toNatClampNeg) + (1 : Int32))) _ _ _ dX11_comes_323 ⟨nz1, h⟩ hw
    · have h := h.2 c8
      refine lv_aload_n hx hb dX11_comes_282 rfl (lv_at hl 0 rfl) ?_
      refine g_get (ci := 11) ha hw 0 3 rfl hi_X11_comes_11 (by decide) (List.mem_of_getElem? (i := 2) rfl) rfl rfl dX11_comes_283 ?_
      refine lv_bipush (v := (45 : Int32)) hx hb dX11_comes_286 (by decide) ?_
      refine lv_iconst (v := (4 : Int32)) hx hb dX11_comes_288 (by decide) ?_
      refine lv_aload_n hx hb dX11_comes_289 rfl (lv_at hl 0 rfl) ?_
      refine g_get (ci := 11) ha hw 0 3 rfl hi_X11_comes_11 (by decide) (List.mem_of_getElem? (i := 2) rfl) rfl rfl dX11_comes_290 ?_
      refine lv_iconst (v := (2 : Int32)) hx hb dX11_comes_293 (by decide) ?_
      refine g_ald ha hw 1 rfl (vp_in_iff.mpr (by decide)) dX11_comes_294 ?_
      refine lv_imul hx hb dX11_comes_295 ?_
      refine lv_iadd hx hb dX11_comes_296 ?_
      refine lv_iload_n hx hb dX11_comes_297 rfl (lv_at hl 1 rfl) ?_
      refine lv_iadd hx hb dX11_comes_298 ?_
      refine lv_aload_n hx hb dX11_comes_299 rfl (lv_at hl 0 rfl) ?_
      refine g_get (ci := 11) ha hw 0 6 rfl hi_X11_comes_11 (by decide) (List.mem_of_getElem? (i := 1) rfl) rfl rfl dX11_comes_300 ?_
      refine lv_iload_n hx hb dX11_comes_303 rfl (lv_at hl 1 rfl) ?_
      obtain ⟨z9, h⟩ := h
      refine g_ald ha hw 2 rfl z9 dX11_comes_304 ?_
      obtain ⟨z10, h⟩ := h
      refine g_ast (wn := (w_X11_comes cy a_this a_read a_told w_refusals w_s w_image w_tape w_met w_best w_kept w_squares w_far w_queue (upd v_read (((45 : Int32) + ((4 : Int32) * (v_read (2 : Int32).toNatClampNeg))) + x2).toNatClampNeg (v_told x2.toNatClampNeg)) v_isImage v_told v_taped v_at v_wrongHour v_wrongThing v_soonest v_bestSteps)) ha hw 1 rfl z10 rfl dX11_comes_305 (fun H locs hw => ?_)
      refine lv_iinc (v := x2 + (1 : Int32)) (lv' := [(2, .int (x2 + (1 : Int32))), (0, .ref a_this)]) hx hb dX11_comes_306 hl (k := 1) rfl rfl (by decide) rfl (fun ls hl => ?_)
      refine lv_goto (tgt := 277) hx hb dX11_comes_309 (by decide) ?_
      exact ih _ _ _ _ _ h hw (lv_sub hl [1, 0] rfl)
def wp_X11_comes (x1 : Int32) (v_read : IA) (v_told : IA) (K : Int32 → IA → Prop) : Prop := (x1 = (114 : Int32) → ((v_told (0 : Int32).toNatClampNeg) < (1 : Int32) → K (0 : Int32) v_read) ∧ (¬ ((v_told (0 : Int32).toNatClampNeg) < (1 : Int32)) → ((v_told (1 : Int32).toNatClampNeg) < (1 : Int32) → K (0 : Int32) v_read) ∧ (¬ ((v_told (1 : Int32).toNatClampNeg) < (1 : Int32)) → ((2 : Int32) < (v_told (1 : Int32).toNatClampNeg) → K (0 : Int32) v_read) ∧ (¬ ((2 : Int32) < (v_told (1 : Int32).toNatClampNeg)) → ((v_read (0 : Int32).toNatClampNeg) = (6 : Int32) → K (0 : Int32) v_read) ∧ (¬ ((v_read (0 : Int32).toNatClampNeg) = (6 : Int32)) → vp_in ((9 : Int32) + (v_read (0 : Int32).toNatClampNeg)) 120 ∧ (vp_in ((15 : Int32) + ((upd v_read ((9 : Int32) + (v_read (0 : Int32).toNatClampNeg)).toNatClampNeg (v_told (0 : Int32).toNatClampNeg)) (0 : Int32).toNatClampNeg)) 120 ∧ (K (1 : Int32) (upd (upd (upd v_read ((9 : Int32) + (v_read (0 : Int32).toNatClampNeg)).toNatClampNeg (v_told (0 : Int32).toNatClampNeg)) ((15 : Int32) + ((upd v_read ((9 : Int32) + (v_read (0 : Int32).toNatClampNeg)).toNatClampNeg (v_told (0 : Int32).toNatClampNeg)) (0 : Int32).toNatClampNeg)).toNatClampNeg (v_told (1 : Int32).toNatClampNeg)) (0 : Int32).toNatClampNeg (((upd (upd v_read ((9 : Int32) + (v_read (0 : Int32).toNatClampNeg)).toNatClampNeg (v_told (0 : Int32).toNatClampNeg)) ((15 : Int32) + ((upd v_read ((9 : Int32) + (v_read (0 : Int32).toNatClampNeg)).toNatClampNeg (v_told (0 : Int32).toNatClampNeg)) (0 : Int32).toNatClampNeg)).toNatClampNeg (v_told (1 : Int32).toNatClampNeg)) (0 : Int32).toNatClampNeg) + (1 : Int32)))))))))) ∧ (¬ (x1 = (114 : Int32)) → ((v_read (0 : Int32).toNatClampNeg) ≤ (v_told (0 : Int32).toNatClampNeg) → K (0 : Int32) v_read) ∧ (¬ ((v_read (0 : Int32).toNatClampNeg) ≤ (v_told (0 : Int32).toNatClampNeg)) → ((v_read (0 : Int32).toNatClampNeg) ≤ (v_told (1 : Int32).toNatClampNeg) → K (0 : Int32) v_read) ∧ (¬ ((v_read (0 : Int32).toNatClampNeg) ≤ (v_told (1 : Int32).toNatClampNeg)) → ((v_told (0 : Int32).toNatClampNeg) = (v_told (1 : Int32).toNatClampNeg) → K (0 : Int32) v_read) ∧ (¬ ((v_told (0 : Int32).toNatClampNeg) = (v_told (1 : Int32).toNatClampNeg)) → (x1 = (100 : Int32) → wp_X11_isDoor (v_told (0 : Int32).toNatClampNeg) (v_told (1 : Int32).toNatClampNeg) (120) v_read (fun (r12 : Int32) => (r12 = 0 → ((v_read (1 : Int32).toNatClampNeg) = (12 : Int32) → K (0 : Int32) v_read) ∧ (¬ ((v_read (1 : Int32).toNatClampNeg) = (12 : Int32)) → vp_in ((21 : Int32) + ((2 : Int32) * (v_read (1 : Int32).toNatClampNeg))) 120 ∧ (vp_in (((21 : Int32) + ((2 : Int32) * ((upd v_read ((21 : Int32) + ((2 : Int32) * (v_read (1 : Int32).toNatClampNeg))).toNatClampNeg (v_told (0 : Int32).toNatClampNeg)) (1 : Int32).toNatClampNeg))) + (1 : Int32)) 120 ∧ (K (1 : Int32) (upd (upd (upd v_read ((21 : Int32) + ((2 : Int32) * (v_read (1 : Int32).toNatClampNeg))).toNatClampNeg (v_told (0 : Int32).toNatClampNeg)) (((21 : Int32) + ((2 : Int32) * ((upd v_read ((21 : Int32) + ((2 : Int32) * (v_read (1 : Int32).toNatClampNeg))).toNatClampNeg (v_told (0 : Int32).toNatClampNeg)) (1 : Int32).toNatClampNeg))) + (1 : Int32)).toNatClampNeg (v_told (1 : Int32).toNatClampNeg)) (1 : Int32).toNatClampNeg (((upd (upd v_read ((21 : Int32) + ((2 : Int32) * (v_read (1 : Int32).toNatClampNeg))).toNatClampNeg (v_told (0 : Int32).toNatClampNeg)) (((21 : Int32) + ((2 : Int32) * ((upd v_read ((21 : Int32) + ((2 : Int32) * (v_read (1 : Int32).toNatClampNeg))).toNatClampNeg (v_told (0 : Int32).toNatClampNeg)) (1 : Int32).toNatClampNeg))) + (1 : Int32)).toNatClampNeg (v_told (1 : Int32).toNatClampNeg)) (1 : Int32).toNatClampNeg) + (1 : Int32))))))) ∧ (¬ (r12 = 0) → K (0 : Int32) v_read))) ∧ (¬ (x1 = (100 : Int32)) → ((v_told (3 : Int32).toNatClampNeg) < (v_told (2 : Int32).toNatClampNeg) → K (0 : Int32) v_read) ∧ (¬ ((v_told (3 : Int32).toNatClampNeg) < (v_told (2 : Int32).toNatClampNeg)) → ((v_read (2 : Int32).toNatClampNeg) = (8 : Int32) → K (0 : Int32) v_read) ∧ (¬ ((v_read (2 : Int32).toNatClampNeg) = (8 : Int32)) → ∃ n11 : Nat, wp_X11_comes_277 v_told K n11 (0 : Int32) v_read)))))))
set_option maxHeartbeats 4000000 in
set_option maxRecDepth 100000 in
theorem c_X11_comes {l : Launch} {D : va_G} {cy : ClassId} {a_this a_read a_told : Nat} {w_refusals w_s w_image w_tape w_met w_best w_kept w_squares w_far w_queue : Value} {v_read : IA} {v_isImage : Int32} {v_told : IA} {v_taped : Int32} {v_at : Int32} {v_wrongHour : Int32} {v_wrongThing : Int32} {v_soonest : Int32} {v_bestSteps : Int32} {x1 : Int32} {K : Int32 → IA → Prop} : CtI l yX11_comes wsX11_comes { frames := 2, cells := 0, slots := 0, locals := 153 } 0 0 D cy [.ref a_this, .int x1] (w_X11_comes cy a_this a_read a_told w_refusals w_s w_image w_tape w_met w_best w_kept w_squares w_far w_queue v_read v_isImage v_told v_taped v_at v_wrongHour v_wrongThing v_soonest v_bestSteps) (wp_X11_comes x1 v_read v_told K) (fun (u : IA) => (w_X11_comes cy a_this a_read a_told w_refusals w_s w_image w_tape w_met w_best w_kept w_squares w_far w_queue u v_isImage v_told v_taped v_at v_wrongHour v_wrongThing v_soonest v_bestSteps)) (fun (r : Int32) (u : IA) => nz r ∧ K r u) := by
  refine CtI.mk (cc := cX11_comes) (nL := 3) (ty := .boolean) (by decide) rfl (Nat.le_of_ble_eq_true rfl) (fun r u h => h.1.nar) ?_
  intro p e s m args below meth c A Q ha hr _ h ls hl hw
  have ha : am p s m args c cX11_comes 3 RX11 wsX11_comes D cy A := ha
  have hx := ha.1
  have hb := ha.2.1
  have hl : lv_has ls 3 [(0, .ref a_this), (1, .int x1)] := hl
  have h : (x1 = (114 : Int32) → ((v_told (0 : Int32).toNatClampNeg) < (1 : Int32) → K (0 : Int32) v_read) ∧ (¬ ((v_told (0 : Int32).toNatClampNeg) < (1 : Int32)) → ((v_told (1 : Int32).toNatClampNeg) < (1 : Int32) → K (0 : Int32) v_read) ∧ (¬ ((v_told (1 : Int32).toNatClampNeg) < (1 : Int32)) → ((2 : Int32) < (v_told (1 : Int32).toNatClampNeg) → K (0 : Int32) v_read) ∧ (¬ ((2 : Int32) < (v_told (1 : Int32).toNatClampNeg)) → ((v_read (0 : Int32).toNatClampNeg) = (6 : Int32) → K (0 : Int32) v_read) ∧ (¬ ((v_read (0 : Int32).toNatClampNeg) = (6 : Int32)) → vp_in ((9 : Int32) + (v_read (0 : Int32).toNatClampNeg)) 120 ∧ (vp_in ((15 : Int32) + ((upd v_read ((9 : Int32) + (v_read (0 : Int32).toNatClampNeg)).toNatClampNeg (v_told (0 : Int32).toNatClampNeg)) (0 : Int32).toNatClampNeg)) 120 ∧ (K (1 : Int32) (upd (upd (upd v_read ((9 : Int32) + (v_read (0 : Int32).toNatClampNeg)).toNatClampNeg (v_told (0 : Int32).toNatClampNeg)) ((15 : Int32) + ((upd v_read ((9 : Int32) + (v_read (0 : Int32).toNatClampNeg)).toNatClampNeg (v_told (0 : Int32).toNatClampNeg)) (0 : Int32).toNatClampNeg)).toNatClampNeg (v_told (1 : Int32).toNatClampNeg)) (0 : Int32).toNatClampNeg (((upd (upd v_read ((9 : Int32) + (v_read (0 : Int32).toNatClampNeg)).toNatClampNeg (v_told (0 : Int32).toNatClampNeg)) ((15 : Int32) + ((upd v_read ((9 : Int32) + (v_read (0 : Int32).toNatClampNeg)).toNatClampNeg (v_told (0 : Int32).toNatClampNeg)) (0 : Int32).toNatClampNeg)).toNatClampNeg (v_told (1 : Int32).toNatClampNeg)) (0 : Int32).toNatClampNeg) + (1 : Int32)))))))))) ∧ (¬ (x1 = (114 : Int32)) → ((v_read (0 : Int32).toNatClampNeg) ≤ (v_told (0 : Int32).toNatClampNeg) → K (0 : Int32) v_read) ∧ (¬ ((v_read (0 : Int32).toNatClampNeg) ≤ (v_told (0 : Int32).toNatClampNeg)) → ((v_read (0 : Int32).toNatClampNeg) ≤ (v_told (1 : Int32).toNatClampNeg) → K (0 : Int32) v_read) ∧ (¬ ((v_read (0 : Int32).toNatClampNeg) ≤ (v_told (1 : Int32).toNatClampNeg)) → ((v_told (0 : Int32).toNatClampNeg) = (v_told (1 : Int32).toNatClampNeg) → K (0 : Int32) v_read) ∧ (¬ ((v_told (0 : Int32).toNatClampNeg) = (v_told (1 : Int32).toNatClampNeg)) → (x1 = (100 : Int32) → wp_X11_isDoor (v_told (0 : Int32).toNatClampNeg) (v_told (1 : Int32).toNatClampNeg) (120) v_read (fun (r12 : Int32) => (r12 = 0 → ((v_read (1 : Int32).toNatClampNeg) = (12 : Int32) → K (0 : Int32) v_read) ∧ (¬ ((v_read (1 : Int32).toNatClampNeg) = (12 : Int32)) → vp_in ((21 : Int32) + ((2 : Int32) * (v_read (1 : Int32).toNatClampNeg))) 120 ∧ (vp_in (((21 : Int32) + ((2 : Int32) * ((upd v_read ((21 : Int32) + ((2 : Int32) * (v_read (1 : Int32).toNatClampNeg))).toNatClampNeg (v_told (0 : Int32).toNatClampNeg)) (1 : Int32).toNatClampNeg))) + (1 : Int32)) 120 ∧ (K (1 : Int32) (upd (upd (upd v_read ((21 : Int32) + ((2 : Int32) * (v_read (1 : Int32).toNatClampNeg))).toNatClampNeg (v_told (0 : Int32).toNatClampNeg)) (((21 : Int32) + ((2 : Int32) * ((upd v_read ((21 : Int32) + ((2 : Int32) * (v_read (1 : Int32).toNatClampNeg))).toNatClampNeg (v_told (0 : Int32).toNatClampNeg)) (1 : Int32).toNatClampNeg))) + (1 : Int32)).toNatClampNeg (v_told (1 : Int32).toNatClampNeg)) (1 : Int32).toNatClampNeg (((upd (upd v_read ((21 : Int32) + ((2 : Int32) * (v_read (1 : Int32).toNatClampNeg))).toNatClampNeg (v_told (0 : Int32).toNatClampNeg)) (((21 : Int32) + ((2 : Int32) * ((upd v_read ((21 : Int32) + ((2 : Int32) * (v_read (1 : Int32).toNatClampNeg))).toNatClampNeg (v_told (0 : Int32).toNatClampNeg)) (1 : Int32).toNatClampNeg))) + (1 : Int32)).toNatClampNeg (v_told (1 : Int32).toNatClampNeg)) (1 : Int32).toNatClampNeg) + (1 : Int32))))))) ∧ (¬ (r12 = 0) → K (0 : Int32) v_read))) ∧ (¬ (x1 = (100 : Int32)) → ((v_told (3 : Int32).toNatClampNeg) < (v_told (2 : Int32).toNatClampNeg) → K (0 : Int32) v_read) ∧ (¬ ((v_told (3 : Int32).toNatClampNeg) < (v_told (2 : Int32).toNatClampNeg)) → ((v_read (2 : Int32).toNatClampNeg) = (8 : Int32) → K (0 : Int32) v_read) ∧ (¬ ((v_read (2 : Int32).toNatClampNeg) = (8 : Int32)) → ∃ n11 : Nat, wp_X11_comes_277 v_told K n11 (0 : Int32) v_read))))))) := h
  refine lv_iload_n hx hb dX11_comes_0 rfl (lv_at hl 1 rfl) ?_
  refine lv_bipush (v := (114 : Int32)) hx hb dX11_comes_1 (by decide) ?_
  refine lv_icmp_ne (tgt := 101) hx hb dX11_comes_3 (by decide) (fun c1 => ?_) (fun c1 => ?_)
  · have h := h.2 c1
    refine lv_aload_n hx hb dX11_comes_101 rfl (lv_at hl 0 rfl) ?_
    refine g_get (ci := 11) ha hw 0 6 rfl hi_X11_comes_11 (by decide) (List.mem_of_getElem? (i := 1) rfl) rfl rfl dX11_comes_102 ?_
    refine lv_iconst (v := (0 : Int32)) hx hb dX11_comes_105 (by decide) ?_
    refine g_ald ha hw 2 rfl (vp_in_iff.mpr (by decide)) dX11_comes_106 ?_
    refine lv_aload_n hx hb dX11_comes_107 rfl (lv_at hl 0 rfl) ?_
    refine g_get (ci := 11) ha hw 0 3 rfl hi_X11_comes_11 (by decide) (List.mem_of_getElem? (i := 2) rfl) rfl rfl dX11_comes_108 ?_
    refine lv_iconst (v := (0 : Int32)) hx hb dX11_comes_111 (by decide) ?_
    refine g_ald ha hw 1 rfl (vp_in_iff.mpr (by decide)) dX11_comes_112 ?_
    refine lv_icmp_ge (tgt := 146) hx hb dX11_comes_113 (by decide) (fun c2 => ?_) (fun c2 => ?_)
    · have h := h.1 c2
      refine lv_iconst (v := (0 : Int32)) hx hb dX11_comes_146 (by decide) ?_
      exact hr _ _ (v_read) _ _ _ dX11_comes_147 ⟨nz0, h⟩ hw
    · have h := h.2 c2
      refine lv_aload_n hx hb dX11_comes_116 rfl (lv_at hl 0 rfl) ?_
      refine g_get (ci := 11) ha hw 0 6 rfl hi_X11_comes_11 (by decide) (List.mem_of_getElem? (i := 1) rfl) rfl rfl dX11_comes_117 ?_
      refine lv_iconst (v := (1 : Int32)) hx hb dX11_comes_120 (by decide) ?_
      refine g_ald ha hw 2 rfl (vp_in_iff.mpr (by decide)) dX11_comes_121 ?_
      refine lv_aload_n hx hb dX11_comes_122 rfl (lv_at hl 0 rfl) ?_
      refine g_get (ci := 11) ha hw 0 3 rfl hi_X11_comes_11 (by decide) (List.mem_of_getElem? (i := 2) rfl) rfl rfl dX11_comes_123 ?_
      refine lv_iconst (v := (0 : Int32)) hx hb dX11_comes_126 (by decide) ?_
      refine g_ald ha hw 1 rfl (vp_in_iff.mpr (by decide)) dX11_comes_127 ?_
      refine lv_icmp_ge (tgt := 146) hx hb dX11_comes_128 (by decide) (fun c3 => ?_) (fun c3 => ?_)
      · have h := h.1 c3
        refine lv_iconst (v := (0 : Int32)) hx hb dX11_comes_146 (by decide) ?_
        exact hr _ _ (v_read) _ _ _ dX11_comes_147 ⟨nz0, h⟩ hw
      · have h := h.2 c3
        refine lv_aload_n hx hb dX11_comes_131 rfl (lv_at hl 0 rfl) ?_
        refine g_get (ci := 11) ha hw 0 6 rfl hi_X11_comes_11 (by decide) (List.mem_of_getElem? (i := 1) rfl) rfl rfl dX11_comes_132 ?_
        refine lv_iconst (v := (0 : Int32)) hx hb dX11_comes_135 (by decide) ?_
        refine g_ald ha hw 2 rfl (vp_in_iff.mpr (by decide)) dX11_comes_136 ?_
        refine lv_aload_n hx hb dX11_comes_137 rfl (lv_at hl 0 rfl) ?_
        refine g_get (ci := 11) ha hw 0 6 rfl hi_X11_comes_11 (by decide) (List.mem_of_getElem? (i := 1) rfl) rfl rfl dX11_comes_138 ?_
        refine lv_iconst (v := (1 : Int32)) hx hb dX11_comes_141 (by decide) ?_
        refine g_ald ha hw 2 rfl (vp_in_iff.mpr (by decide)) dX11_comes_142 ?_
        refine lv_icmp_ne (tgt := 148) hx hb dX11_comes_143 (by decide) (fun c4 => ?_) (fun c4 => ?_)
        · have h := h.2 c4
          refine lv_iload_n hx hb dX11_comes_148 rfl (lv_at hl 1 rfl) ?_
          refine lv_bipush (v := (100 : Int32)) hx hb dX11_comes_149 (by decide) ?_
          refine lv_icmp_ne (tgt := 247) hx hb dX11_comes_151 (by decide) (fun c5 => ?_) (fun c5 => ?_)
          · have h := h.2 c5
            refine lv_aload_n hx hb dX11_comes_247 rfl (lv_at hl 0 rfl) ?_
            refine g_get (ci := 11) ha hw 0 6 rfl hi_X11_comes_11 (by decide) (List.mem_of_getElem? (i := 1) rfl) rfl rfl dX11_comes_248 ?_
            refine lv_iconst (v := (2 : Int32)) hx hb dX11_comes_251 (by decide) ?_
            refine g_ald ha hw 2 rfl (vp_in_iff.mpr (by decide)) dX11_comes_252 ?_
            refine lv_aload_n hx hb dX11_comes_253 rfl (lv_at hl 0 rfl) ?_
            refine g_get (ci := 11) ha hw 0 6 rfl hi_X11_comes_11 (by decide) (List.mem_of_getElem? (i := 1) rfl) rfl rfl dX11_comes_254 ?_
            refine lv_iconst (v := (3 : Int32)) hx hb dX11_comes_257 (by decide) ?_
            refine g_ald ha hw 2 rfl (vp_in_iff.mpr (by decide)) dX11_comes_258 ?_
            refine lv_icmp_gt (tgt := 273) hx hb dX11_comes_259 (by decide) (fun c6 => ?_) (fun c6 => ?_)
            · have h := h.1 c6
              refine lv_iconst (v := (0 : Int32)) hx hb dX11_comes_273 (by decide) ?_
              exact hr _ _ (v_read) _ _ _ dX11_comes_274 ⟨nz0, h⟩ hw
            · have h := h.2 c6
              refine lv_aload_n hx hb dX11_comes_262 rfl (lv_at hl 0 rfl) ?_
              refine g_get (ci := 11) ha hw 0 3 rfl hi_X11_comes_11 (by decide) (List.mem_of_getElem? (i := 2) rfl) rfl rfl dX11_comes_263 ?_
              refine lv_iconst (v := (2 : Int32)) hx hb dX11_comes_266 (by decide) ?_
              refine g_ald ha hw 1 rfl (vp_in_iff.mpr (by decide)) dX11_comes_267 ?_
              refine lv_bipush (v := (8 : Int32)) hx hb dX11_comes_268 (by decide) ?_
              refine lv_icmp_ne (tgt := 275) hx hb dX11_comes_270 (by decide) (fun c7 => ?_) (fun c7 => ?_)
              · have h := h.2 c7
                refine lv_iconst (v := (0 : Int32)) hx hb dX11_comes_275 (by decide) ?_
                refine lv_istore_n (lv' := [(2, .int (0 : Int32)), (0, .ref a_this), (1, .int x1)]) hx hb dX11_comes_276 rfl hl (by decide) rfl (fun ls hl => ?_)
                obtain ⟨n9, h⟩ := h
                refine pl_X11_comes_277 ha hr n9 _ _ _ _ _ h hw (lv_sub hl [1, 0] rfl)
              · have h := h.1 c7
                refine lv_iconst (v := (0 : Int32)) hx hb dX11_comes_273 (by decide) ?_
                exact hr _ _ (v_read) _ _ _ dX11_comes_274 ⟨nz0, h⟩ hw
          · have h := h.1 c5
            refine lv_aload_n hx hb dX11_comes_154 rfl (lv_at hl 0 rfl) ?_
            refine g_get (ci := 11) ha hw 0 3 rfl hi_X11_comes_11 (by decide) (List.mem_of_getElem? (i := 2) rfl) rfl rfl dX11_comes_155 ?_
            refine lv_aload_n hx hb dX11_comes_158 rfl (lv_at hl 0 rfl) ?_
            refine g_get (ci := 11) ha hw 0 6 rfl hi_X11_comes_11 (by decide) (List.mem_of_getElem? (i := 1) rfl) rfl rfl dX11_comes_159 ?_
            refine lv_iconst (v := (0 : Int32)) hx hb dX11_comes_162 (by decide) ?_
            refine g_ald ha hw 2 rfl (vp_in_iff.mpr (by decide)) dX11_comes_163 ?_
            refine lv_aload_n hx hb dX11_comes_164 rfl (lv_at hl 0 rfl) ?_
            refine g_get (ci := 11) ha hw 0 6 rfl hi_X11_comes_11 (by decide) (List.mem_of_getElem? (i := 1) rfl) rfl rfl dX11_comes_165 ?_
            refine lv_iconst (v := (1 : Int32)) hx hb dX11_comes_168 (by decide) ?_
            refine g_ald ha hw 2 rfl (vp_in_iff.mpr (by decide)) dX11_comes_169 ?_
            refine g_csi (rm := { frames := 1, cells := 0, slots := 0, locals := 64 }) (wn := (fun (u : Unit) => (w_X11_comes cy a_this a_read a_told w_refusals w_s w_image w_tape w_met w_best w_kept w_squares w_far w_queue v_read v_isImage v_told v_taped v_at v_wrongHour v_wrongThing v_soonest v_bestSteps))) (As := [.ref a_read, .int (v_told (0 : Int32).toNatClampNeg), .int (v_told (1 : Int32).toNatClampNeg)]) ha hw hl.1 (c_X11_isDoor (cy := cy)) (va_cwS 3 ha.2.2.2.2.1 gX11_comes_X11_isDoor rfl rfl rfl hq_X11_isDoor ⟨Nat.le_of_ble_eq_true rfl, Nat.le_of_ble_eq_true rfl⟩) [1] [0, 2] [0, 2, 1] rfl rfl rfl rfl (by decide) rfl (fun _ => rfl) h rfl rfl (Nat.le_of_ble_eq_true rfl) dX11_comes_170 ⟨Nat.le_refl _, Nat.le_refl _⟩ (fun r12 u H locs h hw => ?_)
            have hw : wd D A s.heap (w_X11_comes cy a_this a_read a_told w_refusals w_s w_image w_tape w_met w_best w_kept w_squares w_far w_queue v_read v_isImage v_told v_taped v_at v_wrongHour v_wrongThing v_soonest v_bestSteps) H locs := hw
            obtain ⟨zr12, h⟩ := h
            try dsimp only at h
            refine lv_if_ne (tgt := 187) hx hb dX11_comes_173 (by decide) (fun c13 => ?_) (fun c13 => ?_)
            · have h := h.2 c13
              refine lv_iconst (v := (0 : Int32)) hx hb dX11_comes_187 (by decide) ?_
              exact hr _ _ (v_read) _ _ _ dX11_comes_188 ⟨nz0, h⟩ hw
            · have h := h.1 c13
              refine lv_aload_n hx hb dX11_comes_176 rfl (lv_at hl 0 rfl) ?_
              refine g_get (ci := 11) ha hw 0 3 rfl hi_X11_comes_11 (by decide) (List.mem_of_getElem? (i := 2) rfl) rfl rfl dX11_comes_177 ?_
              refine lv_iconst (v := (1 : Int32)) hx hb dX11_comes_180 (by decide) ?_
              refine g_ald ha hw 1 rfl (vp_in_iff.mpr (by decide)) dX11_comes_181 ?_
              refine lv_bipush (v := (12 : Int32)) hx hb dX11_comes_182 (by decide) ?_
              refine lv_icmp_ne (tgt := 189) hx hb dX11_comes_184 (by decide) (fun c14 => ?_) (fun c14 => ?_)
              · have h := h.2 c14
                refine lv_aload_n hx hb dX11_comes_189 rfl (lv_at hl 0 rfl) ?_
                refine g_get (ci := 11) ha hw 0 3 rfl hi_X11_comes_11 (by decide) (List.mem_of_getElem? (i := 2) rfl) rfl rfl dX11_comes_190 ?_
                refine lv_bipush (v := (21 : Int32)) hx hb dX11_comes_193 (by decide) ?_
                refine lv_iconst (v := (2 : Int32)) hx hb dX11_comes_195 (by decide) ?_
                refine lv_aload_n hx hb dX11_comes_196 rfl (lv_at hl 0 rfl) ?_
                refine g_get (ci := 11) ha hw 0 3 rfl hi_X11_comes_11 (by decide) (List.mem_of_getElem? (i := 2) rfl) rfl rfl dX11_comes_197 ?_
                refine lv_iconst (v := (1 : Int32)) hx hb dX11_comes_200 (by decide) ?_
                refine g_ald ha hw 1 rfl (vp_in_iff.mpr (by decide)) dX11_comes_201 ?_
                refine lv_imul hx hb dX11_comes_202 ?_
                refine lv_iadd hx hb dX11_comes_203 ?_
                refine lv_aload_n hx hb dX11_comes_204 rfl (lv_at hl 0 rfl) ?_
                refine g_get (ci := 11) ha hw 0 6 rfl hi_X11_comes_11 (by decide) (List.mem_of_getElem? (i := 1) rfl) rfl rfl dX11_comes_205 ?_
                refine lv_iconst (v := (0 : Int32)) hx hb dX11_comes_208 (by decide) ?_
                refine g_ald ha hw 2 rfl (vp_in_iff.mpr (by decide)) dX11_comes_209 ?_
                obtain ⟨z15, h⟩ := h
                refine g_ast (wn := (w_X11_comes cy a_this a_read a_told w_refusals w_s w_image w_tape w_met w_best w_kept w_squares w_far w_queue (upd v_read ((21 : Int32) + ((2 : Int32) * (v_read (1 : Int32).toNatClampNeg))).toNatClampNeg (v_told (0 : Int32).toNatClampNeg)) v_isImage v_told v_taped v_at v_wrongHour v_wrongThing v_soonest v_bestSteps)) ha hw 1 rfl z15 rfl dX11_comes_210 (fun H locs hw => ?_)
                refine lv_aload_n hx hb dX11_comes_211 rfl (lv_at hl 0 rfl) ?_
                refine g_get (ci := 11) ha hw 0 3 rfl hi_X11_comes_11 (by decide) (List.mem_of_getElem? (i := 2) rfl) rfl rfl dX11_comes_212 ?_
                refine lv_bipush (v := (21 : Int32)) hx hb dX11_comes_215 (by decide) ?_
                refine lv_iconst (v := (2 : Int32)) hx hb dX11_comes_217 (by decide) ?_
                refine lv_aload_n hx hb dX11_comes_218 rfl (lv_at hl 0 rfl) ?_
                refine g_get (ci := 11) ha hw 0 3 rfl hi_X11_comes_11 (by decide) (List.mem_of_getElem? (i := 2) rfl) rfl rfl dX11_comes_219 ?_
                refine lv_iconst (v := (1 : Int32)) hx hb dX11_comes_222 (by decide) ?_
                refine g_ald ha hw 1 rfl (vp_in_iff.mpr (by decide)) dX11_comes_223 ?_
                refine lv_imul hx hb dX11_comes_224 ?_
                refine lv_iadd hx hb dX11_comes_225 ?_
                refine lv_iconst (v := (1 : Int32)) hx hb dX11_comes_226 (by decide) ?_
                refine lv_iadd hx hb dX11_comes_227 ?_
                refine lv_aload_n hx hb dX11_comes_228 rfl (lv_at hl 0 rfl) ?_
                refine g_get (ci := 11) ha hw 0 6 rfl hi_X11_comes_11 (by decide) (List.mem_of_getElem? (i := 1) rfl) rfl rfl dX11_comes_229 ?_
                refine lv_iconst (v := (1 : Int32)) hx hb dX11_comes_232 (by decide) ?_
                refine g_ald ha hw 2 rfl (vp_in_iff.mpr (by decide)) dX11_comes_233 ?_
                obtain ⟨z16, h⟩ := h
                refine g_ast (wn := (w_X11_comes cy a_this a_read a_told w_refusals w_s w_image w_tape w_met w_best w_kept w_squares w_far w_queue (upd (upd v_read ((21 : Int32) + ((2 : Int32) * (v_read (1 : Int32).toNatClampNeg))).toNatClampNeg (v_told (0 : Int32).toNatClampNeg)) (((21 : Int32) + ((2 : Int32) * ((upd v_read ((21 : Int32) + ((2 : Int32) * (v_read (1 : Int32).toNatClampNeg))).toNatClampNeg (v_told (0 : Int32).toNatClampNeg)) (1 : Int32).toNatClampNeg))) + (1 : Int32)).toNatClampNeg (v_told (1 : Int32).toNatClampNeg)) v_isImage v_told v_taped v_at v_wrongHour v_wrongThing v_soonest v_bestSteps)) ha hw 1 rfl z16 rfl dX11_comes_234 (fun H locs hw => ?_)
                refine lv_aload_n hx hb dX11_comes_235 rfl (lv_at hl 0 rfl) ?_
                refine g_get (ci := 11) ha hw 0 3 rfl hi_X11_comes_11 (by decide) (List.mem_of_getElem? (i := 2) rfl) rfl rfl dX11_comes_236 ?_
                refine lv_iconst (v := (1 : Int32)) hx hb dX11_comes_239 (by decide) ?_
                refine lv_dup2_11 hx hb dX11_comes_240 rfl rfl ?_
                refine g_ald ha hw 1 rfl (vp_in_iff.mpr (by decide)) dX11_comes_241 ?_
                refine lv_iconst (v := (1 : Int32)) hx hb dX11_comes_242 (by decide) ?_
                refine lv_iadd hx hb dX11_comes_243 ?_
                refine g_ast (wn := (w_X11_comes cy a_this a_read a_told w_refusals w_s w_image w_tape w_met w_best w_kept w_squares w_far w_queue (upd (upd (upd v_read ((21 : Int32) + ((2 : Int32) * (v_read (1 : Int32).toNatClampNeg))).toNatClampNeg (v_told (0 : Int32).toNatClampNeg)) (((21 : Int32) + ((2 : Int32) * ((upd v_read ((21 : Int32) + ((2 : Int32) * (v_read (1 : Int32).toNatClampNeg))).toNatClampNeg (v_told (0 : Int32).toNatClampNeg)) (1 : Int32).toNatClampNeg))) + (1 : Int32)).toNatClampNeg (v_told (1 : Int32).toNatClampNeg)) (1 : Int32).toNatClampNeg (((upd (upd v_read ((21 : Int32) + ((2 : Int32) * (v_read (1 : Int32).toNatClampNeg))).toNatClampNeg (v_told (0 : Int32).toNatClampNeg)) (((21 : Int32) + ((2 : Int32) * ((upd v_read ((21 : Int32) + ((2 : Int32) * (v_read (1 : Int32).toNatClampNeg))).toNatClampNeg (v_told (0 : Int32).toNatClampNeg)) (1 : Int32).toNatClampNeg))) + (1 : Int32)).toNatClampNeg (v_told (1 : Int32).toNatClampNeg)) (1 : Int32).toNatClampNeg) + (1 : Int32))) v_isImage v_told v_taped v_at v_wrongHour v_wrongThing v_soonest v_bestSteps)) ha hw 1 rfl (vp_in_iff.mpr (by decide)) rfl dX11_comes_244 (fun H locs hw => ?_)
                refine lv_iconst (v := (1 : Int32)) hx hb dX11_comes_245 (by decide) ?_
                exact hr _ _ (upd (upd (upd v_read ((21 : Int32) + ((2 : Int32) * (v_read (1 : Int32).toNatClampNeg))).toNatClampNeg (v_told (0 : Int32).toNatClampNeg)) (((21 : Int32) + ((2 : Int32) * ((upd v_read ((21 : Int32) + ((2 : Int32) * (v_read (1 : Int32).toNatClampNeg))).toNatClampNeg (v_told (0 : Int32).toNatClampNeg)) (1 : Int32).toNatClampNeg))) + (1 : Int32)).toNatClampNeg (v_told (1 : Int32).toNatClampNeg)) (1 : Int32).toNatClampNeg (((upd (upd v_read ((21 : Int32) + ((2 : Int32) * (v_read (1 : Int32).toNatClampNeg))).toNatClampNeg (v_told (0 : Int32).toNatClampNeg)) (((21 : Int32) + ((2 : Int32) * ((upd v_read ((21 : Int32) + ((2 : Int32) * (v_read (1 : Int32).toNatClampNeg))).toNatClampNeg (v_told (0 : Int32).toNatClampNeg)) (1 : Int32).toNatClampNeg))) + (1 : Int32)).toNatClampNeg (v_told (1 : Int32).toNatClampNeg)) (1 : Int32).toNatClampNeg) + (1 : Int32))) _ _ _ dX11_comes_246 ⟨nz1, h⟩ hw
              · have h := h.1 c14
                refine lv_iconst (v := (0 : Int32)) hx hb dX11_comes_187 (by decide) ?_
                exact hr _ _ (v_read) _ _ _ dX11_comes_188 ⟨nz0, h⟩ hw
        · have h := h.1 c4
          refine lv_iconst (v := (0 : Int32)) hx hb dX11_comes_146 (by decide) ?_
          exact hr _ _ (v_read) _ _ _ dX11_comes_147 ⟨nz0, h⟩ hw
  · have h := h.1 c1
    refine lv_aload_n hx hb dX11_comes_6 rfl (lv_at hl 0 rfl) ?_
    refine g_get (ci := 11) ha hw 0 6 rfl hi_X11_comes_11 (by decide) (List.mem_of_getElem? (i := 1) rfl) rfl rfl dX11_comes_7 ?_
    refine lv_iconst (v := (0 : Int32)) hx hb dX11_comes_10 (by decide) ?_
    refine g_ald ha hw 2 rfl (vp_in_iff.mpr (by decide)) dX11_comes_11 ?_
    refine lv_iconst (v := (1 : Int32)) hx hb dX11_comes_12 (by decide) ?_
    refine lv_icmp_lt (tgt := 47) hx hb dX11_comes_13 (by decide) (fun c17 => ?_) (fun c17 => ?_)
    · have h := h.1 c17
      refine lv_iconst (v := (0 : Int32)) hx hb dX11_comes_47 (by decide) ?_
      exact hr _ _ (v_read) _ _ _ dX11_comes_48 ⟨nz0, h⟩ hw
    · have h := h.2 c17
      refine lv_aload_n hx hb dX11_comes_16 rfl (lv_at hl 0 rfl) ?_
      refine g_get (ci := 11) ha hw 0 6 rfl hi_X11_comes_11 (by decide) (List.mem_of_getElem? (i := 1) rfl) rfl rfl dX11_comes_17 ?_
      refine lv_iconst (v := (1 : Int32)) hx hb dX11_comes_20 (by decide) ?_
      refine g_ald ha hw 2 rfl (vp_in_iff.mpr (by decide)) dX11_comes_21 ?_
      refine lv_iconst (v := (1 : Int32)) hx hb dX11_comes_22 (by decide) ?_
      refine lv_icmp_lt (tgt := 47) hx hb dX11_comes_23 (by decide) (fun c18 => ?_) (fun c18 => ?_)
      · have h := h.1 c18
        refine lv_iconst (v := (0 : Int32)) hx hb dX11_comes_47 (by decide) ?_
        exact hr _ _ (v_read) _ _ _ dX11_comes_48 ⟨nz0, h⟩ hw
      · have h := h.2 c18
        refine lv_aload_n hx hb dX11_comes_26 rfl (lv_at hl 0 rfl) ?_
        refine g_get (ci := 11) ha hw 0 6 rfl hi_X11_comes_11 (by decide) (List.mem_of_getElem? (i := 1) rfl) rfl rfl dX11_comes_27 ?_
        refine lv_iconst (v := (1 : Int32)) hx hb dX11_comes_30 (by decide) ?_
        refine g_ald ha hw 2 rfl (vp_in_iff.mpr (by decide)) dX11_comes_31 ?_
        refine lv_iconst (v := (2 : Int32)) hx hb dX11_comes_32 (by decide) ?_
        refine lv_icmp_gt (tgt := 47) hx hb dX11_comes_33 (by decide) (fun c19 => ?_) (fun c19 => ?_)
        · have h := h.1 c19
          refine lv_iconst (v := (0 : Int32)) hx hb dX11_comes_47 (by decide) ?_
          exact hr _ _ (v_read) _ _ _ dX11_comes_48 ⟨nz0, h⟩ hw
        · have h := h.2 c19
          refine lv_aload_n hx hb dX11_comes_36 rfl (lv_at hl 0 rfl) ?_
          refine g_get (ci := 11) ha hw 0 3 rfl hi_X11_comes_11 (by decide) (List.mem_of_getElem? (i := 2) rfl) rfl rfl dX11_comes_37 ?_
          refine lv_iconst (v := (0 : Int32)) hx hb dX11_comes_40 (by decide) ?_
          refine g_ald ha hw 1 rfl (vp_in_iff.mpr (by decide)) dX11_comes_41 ?_
          refine lv_bipush (v := (6 : Int32)) hx hb dX11_comes_42 (by decide) ?_
          refine lv_icmp_ne (tgt := 49) hx hb dX11_comes_44 (by decide) (fun c20 => ?_) (fun c20 => ?_)
          · have h := h.2 c20
            refine lv_aload_n hx hb dX11_comes_49 rfl (lv_at hl 0 rfl) ?_
            refine g_get (ci := 11) ha hw 0 3 rfl hi_X11_comes_11 (by decide) (List.mem_of_getElem? (i := 2) rfl) rfl rfl dX11_comes_50 ?_
            refine lv_bipush (v := (9 : Int32)) hx hb dX11_comes_53 (by decide) ?_
            refine lv_aload_n hx hb dX11_comes_55 rfl (lv_at hl 0 rfl) ?_
            refine g_get (ci := 11) ha hw 0 3 rfl hi_X11_comes_11 (by decide) (List.mem_of_getElem? (i := 2) rfl) rfl rfl dX11_comes_56 ?_
            refine lv_iconst (v := (0 : Int32)) hx hb dX11_comes_59 (by decide) ?_
            refine g_ald ha hw 1 rfl (vp_in_iff.mpr (by decide)) dX11_comes_60 ?_
            refine lv_iadd hx hb dX11_comes_61 ?_
            refine lv_aload_n hx hb dX11_comes_62 rfl (lv_at hl 0 rfl) ?_
            refine g_get (ci := 11) ha hw 0 6 rfl hi_X11_comes_11 (by decide) (List.mem_of_getElem? (i := 1) rfl) rfl rfl dX11_comes_63 ?_
            refine lv_iconst (v := (0 : Int32)) hx hb dX11_comes_66 (by decide) ?_
            refine g_ald ha hw 2 rfl (vp_in_iff.mpr (by decide)) dX11_comes_67 ?_
            obtain ⟨z21, h⟩ := h
            refine g_ast (wn := (w_X11_comes cy a_this a_read a_told w_refusals w_s w_image w_tape w_met w_best w_kept w_squares w_far w_queue (upd v_read ((9 : Int32) + (v_read (0 : Int32).toNatClampNeg)).toNatClampNeg (v_told (0 : Int32).toNatClampNeg)) v_isImage v_told v_taped v_at v_wrongHour v_wrongThing v_soonest v_bestSteps)) ha hw 1 rfl z21 rfl dX11_comes_68 (fun H locs hw => ?_)
            refine lv_aload_n hx hb dX11_comes_69 rfl (lv_at hl 0 rfl) ?_
            refine g_get (ci := 11) ha hw 0 3 rfl hi_X11_comes_11 (by decide) (List.mem_of_getElem? (i := 2) rfl) rfl rfl dX11_comes_70 ?_
            refine lv_bipush (v := (15 : Int32)) hx hb dX11_comes_73 (by decide) ?_
            refine lv_aload_n hx hb dX11_comes_75 rfl (lv_at hl 0 rfl) ?_
            refine g_get (ci := 11) ha hw 0 3 rfl hi_X11_comes_11 (by decide) (List.mem_of_getElem? (i := 2) rfl) rfl rfl dX11_comes_76 ?_
            refine lv_iconst (v := (0 : Int32)) hx hb dX11_comes_79 (by decide) ?_
            refine g_ald ha hw 1 rfl (vp_in_iff.mpr (by decide)) dX11_comes_80 ?_
            refine lv_iadd hx hb dX11_comes_81 ?_
            refine lv_aload_n hx hb dX11_comes_82 rfl (lv_at hl 0 rfl) ?_
            refine g_get (ci := 11) ha hw 0 6 rfl hi_X11_comes_11 (by decide) (List.mem_of_getElem? (i := 1) rfl) rfl rfl dX11_comes_83 ?_
            refine lv_iconst (v := (1 : Int32)) hx hb dX11_comes_86 (by decide) ?_
            refine g_ald ha hw 2 rfl (vp_in_iff.mpr (by decide)) dX11_comes_87 ?_
            obtain ⟨z22, h⟩ := h
            refine g_ast (wn := (w_X11_comes cy a_this a_read a_told w_refusals w_s w_image w_tape w_met w_best w_kept w_squares w_far w_queue (upd (upd v_read ((9 : Int32) + (v_read (0 : Int32).toNatClampNeg)).toNatClampNeg (v_told (0 : Int32).toNatClampNeg)) ((15 : Int32) + ((upd v_read ((9 : Int32) + (v_read (0 : Int32).toNatClampNeg)).toNatClampNeg (v_told (0 : Int32).toNatClampNeg)) (0 : Int32).toNatClampNeg)).toNatClampNeg (v_told (1 : Int32).toNatClampNeg)) v_isImage v_told v_taped v_at v_wrongHour v_wrongThing v_soonest v_bestSteps)) ha hw 1 rfl z22 rfl dX11_comes_88 (fun H locs hw => ?_)
            refine lv_aload_n hx hb dX11_comes_89 rfl (lv_at hl 0 rfl) ?_
            refine g_get (ci := 11) ha hw 0 3 rfl hi_X11_comes_11 (by decide) (List.mem_of_getElem? (i := 2) rfl) rfl rfl dX11_comes_90 ?_
            refine lv_iconst (v := (0 : Int32)) hx hb dX11_comes_93 (by decide) ?_
            refine lv_dup2_11 hx hb dX11_comes_94 rfl rfl ?_
            refine g_ald ha hw 1 rfl (vp_in_iff.mpr (by decide)) dX11_comes_95 ?_
            refine lv_iconst (v := (1 : Int32)) hx hb dX11_comes_96 (by decide) ?_
            refine lv_iadd hx hb dX11_comes_97 ?_
            refine g_ast (wn := (w_X11_comes cy a_this a_read a_told w_refusals w_s w_image w_tape w_met w_best w_kept w_squares w_far w_queue (upd (upd (upd v_read ((9 : Int32) + (v_read (0 : Int32).toNatClampNeg)).toNatClampNeg (v_told (0 : Int32).toNatClampNeg)) ((15 : Int32) + ((upd v_read ((9 : Int32) + (v_read (0 : Int32).toNatClampNeg)).toNatClampNeg (v_told (0 : Int32).toNatClampNeg)) (0 : Int32).toNatClampNeg)).toNatClampNeg (v_told (1 : Int32).toNatClampNeg)) (0 : Int32).toNatClampNeg (((upd (upd v_read ((9 : Int32) + (v_read (0 : Int32).toNatClampNeg)).toNatClampNeg (v_told (0 : Int32).toNatClampNeg)) ((15 : Int32) + ((upd v_read ((9 : Int32) + (v_read (0 : Int32).toNatClampNeg)).toNatClampNeg (v_told (0 : Int32).toNatClampNeg)) (0 : Int32).toNatClampNeg)).toNatClampNeg (v_told (1 : Int32).toNatClampNeg)) (0 : Int32).toNatClampNeg) + (1 : Int32))) v_isImage v_told v_taped v_at v_wrongHour v_wrongThing v_soonest v_bestSteps)) ha hw 1 rfl (vp_in_iff.mpr (by decide)) rfl dX11_comes_98 (fun H locs hw => ?_)
            refine lv_iconst (v := (1 : Int32)) hx hb dX11_comes_99 (by decide) ?_
            exact hr _ _ (upd (upd (upd v_read ((9 : Int32) + (v_read (0 : Int32).toNatClampNeg)).toNatClampNeg (v_told (0 : Int32).toNatClampNeg)) ((15 : Int32) + ((upd v_read ((9 : Int32) + (v_read (0 : Int32).toNatClampNeg)).toNatClampNeg (v_told (0 : Int32).toNatClampNeg)) (0 : Int32).toNatClampNeg)).toNatClampNeg (v_told (1 : Int32).toNatClampNeg)) (0 : Int32).toNatClampNeg (((upd (upd v_read ((9 : Int32) + (v_read (0 : Int32).toNatClampNeg)).toNatClampNeg (v_told (0 : Int32).toNatClampNeg)) ((15 : Int32) + ((upd v_read ((9 : Int32) + (v_read (0 : Int32).toNatClampNeg)).toNatClampNeg (v_told (0 : Int32).toNatClampNeg)) (0 : Int32).toNatClampNeg)).toNatClampNeg (v_told (1 : Int32).toNatClampNeg)) (0 : Int32).toNatClampNeg) + (1 : Int32))) _ _ _ dX11_comes_100 ⟨nz1, h⟩ hw
          · have h := h.1 c20
            refine lv_iconst (v := (0 : Int32)) hx hb dX11_comes_47 (by decide) ?_
            exact hr _ _ (v_read) _ _ _ dX11_comes_48 ⟨nz0, h⟩ hw
theorem hq_X11_reads : yX11_reads.cls = RX11 ∧ yX11_reads.cls ≠ "java/lang/invoke/MethodHandle" ∧ yX11_reads.cls ≠ "java/lang/invoke/VarHandle" ∧ (parseMethodDescriptor yX11_reads.desc).map (fun d => d.parameters.length) = some 0 := by decide +kernel
def w_X11_reads (cy : ClassId) (a_this a_s a_read a_tape a_told : Nat) (w_refusals w_image w_met w_best w_kept w_squares w_far w_queue : Value) (v_s : IA) (v_read : IA) (v_isImage : Int32) (v_tape : IA) (v_told : IA) (v_taped : Int32) (v_at : Int32) (v_wrongHour : Int32) (v_wrongThing : Int32) (v_soonest : Int32) (v_bestSteps : Int32) : va_W := [(a_this, .inr (11, [w_refusals, .ref a_s, w_image, .ref a_read, .int v_isImage, .ref a_tape, .ref a_told, .int v_taped, .int v_at, w_met, .int v_wrongHour, .int v_wrongThing, w_best, w_kept, .int v_soonest, .int v_bestSteps, w_squares, w_far, w_queue])), (a_s, .inl (cy, 120, .inl v_s)), (a_read, .inl (cy, 120, .inl v_read)), (a_tape, .inl (cy, 48, .inl v_tape)), (a_told, .inl (cy, 4, .inl v_told))]
theorem hi_X11_reads_11 : ∀ w ∈ u_ws RX11 TX11 19, w ∈ wsX11_reads := fun _ h => List.mem_cons_of_mem _ (List.mem_append_right _ h)
def wp_X11_reads_7 (v_s : IA) (v_read : IA) (v_tape : IA) (v_taped : Int32) (E39 : Int32 → Int32 → IA → Int32 → Prop) (K : Int32 → IA → IA → IA → Int32 → Prop) : Nat → Int32 → IA → Int32 → Prop
  | 0, _, _, _ => False
  | n + 1, x1, v_told, v_at => wp_X11_readsStatement v_tape v_told v_taped v_at (fun (r1 : Int32) (v_told_2 : IA) (v_at_3 : Int32) => (r1 = 0 → K ((-1000 : Int32) - v_at_3) v_s v_read v_told_2 v_at_3) ∧ (¬ (r1 = 0) → (v_at_3 < v_taped → wp_X11_reads_7 v_s v_read v_tape v_taped E39 K n (x1 + (1 : Int32)) v_told_2 v_at_3) ∧ (¬ (v_at_3 < v_taped) → E39 (x1 + (1 : Int32)) (0 : Int32) v_told_2 v_at_3)))
set_option maxHeartbeats 4000000 in
set_option maxRecDepth 100000 in
theorem pl_X11_reads_7 {p : Program} {l : Launch} {e : Env} {s : State} {m : MethodId} {args : Array Value} {below : List Frame} {meth : Method} {c : Code} {A : Nat → Prop} {Q : State → Prop} {D : va_G} {cy : ClassId} {a_this a_s a_read a_tape a_told : Nat} {w_refusals w_image w_met w_best w_kept w_squares w_far w_queue : Value} {v_s : IA} {v_read : IA} {v_isImage : Int32} {v_tape : IA} {v_taped : Int32} {v_wrongHour : Int32} {v_wrongThing : Int32} {v_soonest : Int32} {v_bestSteps : Int32} {K : Int32 → IA → IA → IA → Int32 → Prop} {E39 : Int32 → Int32 → IA → Int32 → Prop} (ha : am p s m args c cX11_reads 5 RX11 wsX11_reads D cy A) (hr : rtI p l e { frames := 6, cells := 0, slots := 0, locals := 487 } s m args below meth c 0 0 Q cX11_reads D A (fun (u : IA × IA × IA × Int32) => (w_X11_reads cy a_this a_s a_read a_tape a_told w_refusals w_image w_met w_best w_kept w_squares w_far w_queue u.1 u.2.1 v_isImage v_tape u.2.2.1 v_taped u.2.2.2 v_wrongHour v_wrongThing v_soonest v_bestSteps)) (fun (r : Int32) (u : IA × IA × IA × Int32) => K r u.1 u.2.1 u.2.2.1 u.2.2.2)) (hE39 : ∀ (x1' : Int32) (x2' : Int32) (v_told' : IA) (v_at' : Int32) (H : Heap) (locs : List Loc) (ls : Array Slot), E39 x1' x2' v_told' v_at' → wd D A s.heap (w_X11_reads cy a_this a_s a_read a_tape a_told w_refusals w_image w_met w_best w_kept w_squares w_far w_queue v_s v_read v_isImage v_tape v_told' v_taped v_at' v_wrongHour v_wrongThing v_soonest v_bestSteps) H locs → lv_has ls 5 [(0, .ref a_this), (1, .int x1'), (2, .int x2')] → W p l e { frames := 6, cells := 0, slots := 0, locals := 487 } s m args below meth c H locs 0 0 Q (F0 m 39 ls [])) : ∀ (n : Nat) (x1 : Int32) (v_told : IA) (v_at : Int32) (H : Heap) (locs : List Loc) (ls : Array Slot), wp_X11_reads_7 v_s v_read v_tape v_taped E39 K n x1 v_told v_at → wd D A s.heap (w_X11_reads cy a_this a_s a_read a_tape a_told w_refusals w_image w_met w_best w_kept w_squares w_far w_queue v_s v_read v_isImage v_tape v_told v_taped v_at v_wrongHour v_wrongThing v_soonest v_bestSteps) H locs → lv_has ls 5 [(0, .ref a_this), (1, .int x1)] → W p l e { frames := 6, cells := 0, slots := 0, locals := 487 } s m args below meth c H locs 0 0 Q (F0 m 7 ls []) := by
  have hx := ha.1
  have hb := ha.2.1
  intro n
  induction n with
  | zero => exact fun _ _ _ _ _ _ h _ _ => False.elim h
  | succ n ih =>
    intro x1 v_told v_at H locs ls h hw hl
    have h : wp_X11_readsStatement v_tape v_told v_taped v_at (fun (r1 : Int32) (v_told_2 : IA) (v_at_3 : Int32) => (r1 = 0 → K ((-1000 : Int32) - v_at_3) v_s v_read v_told_2 v_at_3) ∧ (¬ (r1 = 0) → (v_at_3 < v_taped → wp_X11_reads_7 v_s v_read v_tape v_taped E39 K n (x1 + (1 : Int32)) v_told_2 v_at_3) ∧ (¬ (v_at_3 < v_taped) → E39 (x1 + (1 : Int32)) (0 : Int32) v_told_2 v_at_3))) := h
    refine lv_aload_n hx hb dX11_reads_7 rfl (lv_at hl 0 rfl) ?_
    refine g_cvi (rm := { frames := 5, cells := 0, slots := 0, locals := 402 }) (wn := (fun (u : IA × Int32) => (w_X11_reads cy a_this a_s a_read a_tape a_told w_refusals w_image w_met w_best w_kept w_squares w_far w_queue v_s v_read v_isImage v_tape u.1 v_taped u.2 v_wrongHour v_wrongThing v_soonest v_bestSteps))) (As := []) ha hw hl.1 (c_X11_readsStatement (cy := cy)) (cwV 0 ha.2.2.2.2.1 gX11_reads_X11_readsStatement rfl rfl rfl hq_X11_readsStatement ⟨Nat.le_of_ble_eq_true rfl, Nat.le_of_ble_eq_true rfl⟩) [0, 3, 4] [1, 2] [2, 0, 1, 3, 4] rfl rfl rfl rfl (by decide) rfl (fun _ => rfl) rfl rfl h rfl rfl (Nat.le_of_ble_eq_true rfl) dX11_reads_8 ⟨Nat.le_refl _, Nat.le_refl _⟩ (fun r1 u H locs h hw => ?_)
    obtain ⟨v_told_2, v_at_3⟩ := u
    have hw : wd D A s.heap (w_X11_reads cy a_this a_s a_read a_tape a_told w_refusals w_image w_met w_best w_kept w_squares w_far w_queue v_s v_read v_isImage v_tape v_told_2 v_taped v_at_3 v_wrongHour v_wrongThing v_soonest v_bestSteps) H locs := hw
    obtain ⟨zr1, h⟩ := h
    try dsimp only at h
    refine lv_if_ne (tgt := 23) hx hb dX11_reads_11 (by decide) (fun c4 => ?_) (fun c4 => ?_)
    · have h := h.2 c4
      refine lv_iinc (v := x1 + (1 : Int32)) (lv' := [(1, .int (x1 + (1 : Int32))), (0, .ref a_this)]) hx hb dX11_reads_23 hl (k := 1) rfl rfl (by decide) rfl (fun ls hl => ?_)
      refine lv_aload_n hx hb dX11_reads_26 rfl (lv_at hl 1 rfl) ?_
      refine g_get (ci := 11) ha hw 0 8 rfl hi_X11_reads_11 (by decide) (List.mem_of_getElem? (i := 1) rfl) rfl rfl dX11_reads_27 ?_
      refine lv_aload_n hx hb dX11_reads_30 rfl (lv_at hl 1 rfl) ?_
      refine g_get (ci := 11) ha hw 0 7 rfl hi_X11_reads_11 (by decide) (List.mem_of_getElem? (i := 2) rfl) rfl rfl dX11_reads_31 ?_
      refine lv_icmp_lt (tgt := 7) hx hb dX11_reads_34 (by decide) (fun c5 => ?_) (fun c5 => ?_)
      · have h := h.1 c5
        exact ih _ _ _ _ _ _ h hw (lv_sub hl [1, 0] rfl)
      · have h := h.2 c5
        refine lv_iconst (v := (0 : Int32)) hx hb dX11_reads_37 (by decide) ?_
        refine lv_istore_n (lv' := [(2, .int (0 : Int32)), (1, .int (x1 + (1 : Int32))), (0, .ref a_this)]) hx hb dX11_reads_38 rfl hl (by decide) rfl (fun ls hl => ?_)
        exact hE39 _ _ _ _ _ _ _ h hw (lv_sub hl [2, 1, 0] rfl)
    · have h := h.1 c4
      refine lv_sipush (v := (-1000 : Int32)) hx hb dX11_reads_14 (by decide) ?_
      refine lv_aload_n hx hb dX11_reads_17 rfl (lv_at hl 0 rfl) ?_
      refine g_get (ci := 11) ha hw 0 8 rfl hi_X11_reads_11 (by decide) (List.mem_of_getElem? (i := 1) rfl) rfl rfl dX11_reads_18 ?_
      refine lv_isub hx hb dX11_reads_21 ?_
      exact hr _ _ (v_s, v_read, v_told_2, v_at_3) _ _ _ dX11_reads_22 h hw
def wp_X11_reads_39 (v_s : IA) (E68 : IA → Int32 → Prop) (K : Int32 → IA → IA → IA → Int32 → Prop) : Nat → Int32 → IA → Int32 → Prop
  | 0, _, _, _ => False
  | n + 1, x2, v_read, v_at => ((120 : Int32) ≤ x2 → E68 v_read (0 : Int32)) ∧ (¬ ((120 : Int32) ≤ x2) → vp_in x2 120 ∧ (wp_X11_reads_39 v_s E68 K n (x2 + (1 : Int32)) (upd v_read x2.toNatClampNeg (v_s x2.toNatClampNeg)) v_at))
set_option maxHeartbeats 4000000 in
set_option maxRecDepth 100000 in
theorem pl_X11_reads_39 {p : Program} {l : Launch} {e : Env} {s : State} {m : MethodId} {args : Array Value} {below : List Frame} {meth : Method} {c : Code} {A : Nat → Prop} {Q : State → Prop} {D : va_G} {cy : ClassId} {a_this a_s a_read a_tape a_told : Nat} {w_refusals w_image w_met w_best w_kept w_squares w_far w_queue : Value} {v_s : IA} {v_isImage : Int32} {v_tape : IA} {v_told : IA} {v_taped : Int32} {v_wrongHour : Int32} {v_wrongThing : Int32} {v_soonest : Int32} {v_bestSteps : Int32} {x1 : Int32} {K : Int32 → IA → IA → IA → Int32 → Prop} {E68 : IA → Int32 → Prop} (ha : am p s m args c cX11_reads 5 RX11 wsX11_reads D cy A) (hr : rtI p l e { frames := 6, cells := 0, slots := 0, locals := 487 } s m args below meth c 0 0 Q cX11_reads D A (fun (u : IA × IA × IA × Int32) => (w_X11_reads cy a_this a_s a_read a_tape a_told w_refusals w_image w_met w_best w_kept w_squares w_far w_queue u.1 u.2.1 v_isImage v_tape u.2.2.1 v_taped u.2.2.2 v_wrongHour v_wrongThing v_soonest v_bestSteps)) (fun (r : Int32) (u : IA × IA × IA × Int32) => K r u.1 u.2.1 u.2.2.1 u.2.2.2)) (hE68 : ∀ (v_read' : IA) (v_at' : Int32) (H : Heap) (locs : List Loc) (ls : Array Slot), E68 v_read' v_at' → wd D A s.heap (w_X11_reads cy a_this a_s a_read a_tape a_told w_refusals w_image w_met w_best w_kept w_squares w_far w_queue v_s v_read' v_isImage v_tape v_told v_taped v_at' v_wrongHour v_wrongThing v_soonest v_bestSteps) H locs → lv_has ls 5 [(0, .ref a_this), (1, .int x1)] → W p l e { frames := 6, cells := 0, slots := 0, locals := 487 } s m args below meth c H locs 0 0 Q (F0 m 68 ls [])) : ∀ (n : Nat) (x2 : Int32) (v_read : IA) (v_at : Int32) (H : Heap) (locs : List Loc) (ls : Array Slot), wp_X11_reads_39 v_s E68 K n x2 v_read v_at → wd D A s.heap (w_X11_reads cy a_this a_s a_read a_tape a_told w_refusals w_image w_met w_best w_kept w_squares w_far w_queue v_s v_read v_isImage v_tape v_told v_taped v_at v_wrongHour v_wrongThing v_soonest v_bestSteps) H locs → lv_has ls 5 [(0, .ref a_this), (1, .int x1), (2, .int x2)] → W p l e { frames := 6, cells := 0, slots := 0, locals := 487 } s m args below meth c H locs 0 0 Q (F0 m 39 ls []) := by
  have hx := ha.1
  have hb := ha.2.1
  intro n
  induction n with
  | zero => exact fun _ _ _ _ _ _ h _ _ => False.elim h
  | succ n ih =>
    intro x2 v_read v_at H locs ls h hw hl
    have h : ((120 : Int32) ≤ x2 → E68 v_read (0 : Int32)) ∧ (¬ ((120 : Int32) ≤ x2) → vp_in x2 120 ∧ (wp_X11_reads_39 v_s E68 K n (x2 + (1 : Int32)) (upd v_read x2.toNatClampNeg (v_s x2.toNatClampNeg)) v_at)) := h
    refine lv_iload_n hx hb dX11_reads_39 rfl (lv_at hl 2 rfl) ?_
    refine lv_bipush (v := (120 : Int32)) hx hb dX11_reads_40 (by decide) ?_
    refine lv_icmp_ge (tgt := 63) hx hb dX11_reads_42 (by decide) (fun c10 => ?_) (fun c10 => ?_)
    · have h := h.1 c10
      refine lv_aload_n hx hb dX11_reads_63 rfl (lv_at hl 0 rfl) ?_
      refine lv_iconst (v := (0 : Int32)) hx hb dX11_reads_64 (by decide) ?_
      refine g_put (ci := 11) (wn := (w_X11_reads cy a_this a_s a_read a_tape a_told w_refusals w_image w_met w_best w_kept w_squares w_far w_queue v_s v_read v_isImage v_tape v_told v_taped (0 : Int32) v_wrongHour v_wrongThing v_soonest v_bestSteps)) ha hw 0 8 rfl hi_X11_reads_11 tyX11_ok nmX11 (by decide) (List.mem_of_getElem? (i := 1) rfl) rfl rfl rfl rfl (Nat.le_of_ble_eq_true rfl) rfl dX11_reads_65 (fun H locs hw => ?_)
      exact hE68 _ _ _ _ _ h hw (lv_sub hl [0, 1] rfl)
    · have h := h.2 c10
      refine lv_aload_n hx hb dX11_reads_45 rfl (lv_at hl 0 rfl) ?_
      refine g_get (ci := 11) ha hw 0 3 rfl hi_X11_reads_11 (by decide) (List.mem_of_getElem? (i := 3) rfl) rfl rfl dX11_reads_46 ?_
      refine lv_iload_n hx hb dX11_reads_49 rfl (lv_at hl 2 rfl) ?_
      refine lv_aload_n hx hb dX11_reads_50 rfl (lv_at hl 0 rfl) ?_
      refine g_get (ci := 11) ha hw 0 1 rfl hi_X11_reads_11 (by decide) (List.mem_of_getElem? (i := 4) rfl) rfl rfl dX11_reads_51 ?_
      refine lv_iload_n hx hb dX11_reads_54 rfl (lv_at hl 2 rfl) ?_
      obtain ⟨z11, h⟩ := h
      refine g_ald ha hw 1 rfl z11 dX11_reads_55 ?_
      refine g_ast (wn := (w_X11_reads cy a_this a_s a_read a_tape a_told w_refusals w_image w_met w_best w_kept w_squares w_far w_queue v_s (upd v_read x2.toNatClampNeg (v_s x2.toNatClampNeg)) v_isImage v_tape v_told v_taped v_at v_wrongHour v_wrongThing v_soonest v_bestSteps)) ha hw 2 rfl z11 rfl dX11_reads_56 (fun H locs hw => ?_)
      refine lv_iinc (v := x2 + (1 : Int32)) (lv' := [(2, .int (x2 + (1 : Int32))), (0, .ref a_this), (1, .int x1)]) hx hb dX11_reads_57 hl (k := 2) rfl rfl (by decide) rfl (fun ls hl => ?_)
      refine lv_goto (tgt := 39) hx hb dX11_reads_60 (by decide) ?_
      exact ih _ _ _ _ _ _ h hw (lv_sub hl [1, 2, 0] rfl)
def wp_X11_reads_68 (v_s : IA) (v_tape : IA) (v_taped : Int32) (E114 : Int32 → IA → IA → Int32 → Prop) (K : Int32 → IA → IA → IA → Int32 → Prop) : Nat → IA → IA → Int32 → Prop
  | 0, _, _, _ => False
  | n + 1, v_read, v_told, v_at => (v_taped ≤ v_at → E114 (0 : Int32) v_read v_told v_at) ∧ (¬ (v_taped ≤ v_at) → wp_X11_sign v_tape v_taped v_at (fun (r15 : Int32) => wp_X11_readsStatement v_tape v_told v_taped v_at (fun (r16 : Int32) (v_told_17 : IA) (v_at_18 : Int32) => wp_X11_comes r15 v_read v_told_17 (fun (r19 : Int32) (v_read_20 : IA) => (r19 = 0 → K ((-2000 : Int32) - v_at) v_s v_read_20 v_told_17 v_at_18) ∧ (¬ (r19 = 0) → wp_X11_reads_68 v_s v_tape v_taped E114 K n v_read_20 v_told_17 v_at_18)))))
set_option maxHeartbeats 4000000 in
set_option maxRecDepth 100000 in
theorem pl_X11_reads_68 {p : Program} {l : Launch} {e : Env} {s : State} {m : MethodId} {args : Array Value} {below : List Frame} {meth : Method} {c : Code} {A : Nat → Prop} {Q : State → Prop} {D : va_G} {cy : ClassId} {a_this a_s a_read a_tape a_told : Nat} {w_refusals w_image w_met w_best w_kept w_squares w_far w_queue : Value} {v_s : IA} {v_isImage : Int32} {v_tape : IA} {v_taped : Int32} {v_wrongHour : Int32} {v_wrongThing : Int32} {v_soonest : Int32} {v_bestSteps : Int32} {x1 : Int32} {K : Int32 → IA → IA → IA → Int32 → Prop} {E114 : Int32 → IA → IA → Int32 → Prop} (ha : am p s m args c cX11_reads 5 RX11 wsX11_reads D cy A) (hr : rtI p l e { frames := 6, cells := 0, slots := 0, locals := 487 } s m args below meth c 0 0 Q cX11_reads D A (fun (u : IA × IA × IA × Int32) => (w_X11_reads cy a_this a_s a_read a_tape a_told w_refusals w_image w_met w_best w_kept w_squares w_far w_queue u.1 u.2.1 v_isImage v_tape u.2.2.1 v_taped u.2.2.2 v_wrongHour v_wrongThing v_soonest v_bestSteps)) (fun (r : Int32) (u : IA × IA × IA × Int32) => K r u.1 u.2.1 u.2.2.1 u.2.2.2)) (hE114 : ∀ (x2' : Int32) (v_read' : IA) (v_told' : IA) (v_at' : Int32) (H : Heap) (locs : List Loc) (ls : Array Slot), E114 x2' v_read' v_told' v_at' → wd D A s.heap (w_X11_reads cy a_this a_s a_read a_tape a_told w_refusals w_image w_met w_best w_kept w_squares w_far w_queue v_s v_read' v_isImage v_tape v_told' v_taped v_at' v_wrongHour v_wrongThing v_soonest v_bestSteps) H locs → lv_has ls 5 [(0, .ref a_this), (1, .int x1), (2, .int x2')] → W p l e { frames := 6, cells := 0, slots := 0, locals := 487 } s m args below meth c H locs 0 0 Q (F0 m 114 ls [])) : ∀ (n : Nat) (v_read : IA) (v_told : IA) (v_at : Int32) (H : Heap) (locs : List Loc) (ls : Array Slot), wp_X11_reads_68 v_s v_tape v_taped E114 K n v_read v_told v_at → wd D A s.heap (w_X11_reads cy a_this a_s a_read a_tape a_told w_refusals w_image w_met w_best w_kept w_squares w_far w_queue v_s v_read v_isImage v_tape v_told v_taped v_at v_wrongHour v_wrongThing v_soonest v_bestSteps) H locs → lv_has ls 5 [(0, .ref a_this), (1, .int x1)] → W p l e { frames := 6, cells := 0, slots := 0, locals := 487 } s m args below meth c H locs 0 0 Q (F0 m 68 ls []) := by
  have hx := ha.1
  have hb := ha.2.1
  intro n
  induction n with
  | zero => exact fun _ _ _ _ _ _ h _ _ => False.elim h
  | succ n ih =>
    intro v_read v_told v_at H locs ls h hw hl
    have h : (v_taped ≤ v_at → E114 (0 : Int32) v_read v_told v_at) ∧ (¬ (v_taped ≤ v_at) → wp_X11_sign v_tape v_taped v_at (fun (r15 : Int32) => wp_X11_readsStatement v_tape v_told v_taped v_at (fun (r16 : Int32) (v_told_17 : IA) (v_at_18 : Int32) => wp_X11_comes r15 v_read v_told_17 (fun (r19 : Int32) (v_read_20 : IA) => (r19 = 0 → K ((-2000 : Int32) - v_at) v_s v_read_20 v_told_17 v_at_18) ∧ (¬ (r19 = 0) → wp_X11_reads_68 v_s v_tape v_taped E114 K n v_read_20 v_told_17 v_at_18))))) := h
    refine lv_aload_n hx hb dX11_reads_68 rfl (lv_at hl 0 rfl) ?_
    refine g_get (ci := 11) ha hw 0 8 rfl hi_X11_reads_11 (by decide) (List.mem_of_getElem? (i := 1) rfl) rfl rfl dX11_reads_69 ?_
    refine lv_aload_n hx hb dX11_reads_72 rfl (lv_at hl 0 rfl) ?_
    refine g_get (ci := 11) ha hw 0 7 rfl hi_X11_reads_11 (by decide) (List.mem_of_getElem? (i := 2) rfl) rfl rfl dX11_reads_73 ?_
    refine lv_icmp_ge (tgt := 112) hx hb dX11_reads_76 (by decide) (fun c14 => ?_) (fun c14 => ?_)
    · have h := h.1 c14
      refine lv_iconst (v := (0 : Int32)) hx hb dX11_reads_112 (by decide) ?_
      refine lv_istore_n (lv' := [(2, .int (0 : Int32)), (0, .ref a_this), (1, .int x1)]) hx hb dX11_reads_113 rfl hl (by decide) rfl (fun ls hl => ?_)
      exact hE114 _ _ _ _ _ _ _ h hw (lv_sub hl [1, 2, 0] rfl)
    · have h := h.2 c14
      refine lv_aload_n hx hb dX11_reads_79 rfl (lv_at hl 0 rfl) ?_
      refine g_get (ci := 11) ha hw 0 8 rfl hi_X11_reads_11 (by decide) (List.mem_of_getElem? (i := 1) rfl) rfl rfl dX11_reads_80 ?_
      refine lv_istore_n (lv' := [(2, .int v_at), (0, .ref a_this), (1, .int x1)]) hx hb dX11_reads_83 rfl hl (by decide) rfl (fun ls hl => ?_)
      refine lv_aload_n hx hb dX11_reads_84 rfl (lv_at hl 1 rfl) ?_
      refine g_cvi (rm := { frames := 1, cells := 0, slots := 0, locals := 64 }) (wn := (fun (u : Unit) => (w_X11_reads cy a_this a_s a_read a_tape a_told w_refusals w_image w_met w_best w_kept w_squares w_far w_queue v_s v_read v_isImage v_tape v_told v_taped v_at v_wrongHour v_wrongThing v_soonest v_bestSteps))) (As := []) ha hw hl.1 (c_X11_sign (cy := cy)) (cwV 0 ha.2.2.2.2.1 gX11_reads_X11_sign rfl rfl rfl hq_X11_sign ⟨Nat.le_of_ble_eq_true rfl, Nat.le_of_ble_eq_true rfl⟩) [0, 3] [1, 2, 4] [3, 0, 1, 4, 2] rfl rfl rfl rfl (by decide) rfl (fun _ => rfl) rfl rfl h rfl rfl (Nat.le_of_ble_eq_true rfl) dX11_reads_85 ⟨Nat.le_refl _, Nat.le_refl _⟩ (fun r15 u H locs h hw => ?_)
      have hw : wd D A s.heap (w_X11_reads cy a_this a_s a_read a_tape a_told w_refusals w_image w_met w_best w_kept w_squares w_far w_queue v_s v_read v_isImage v_tape v_told v_taped v_at v_wrongHour v_wrongThing v_soonest v_bestSteps) H locs := hw
      try dsimp only at h
      refine lv_istore_n (lv' := [(3, .int r15), (2, .int v_at), (0, .ref a_this), (1, .int x1)]) hx hb dX11_reads_88 rfl hl (by decide) rfl (fun ls hl => ?_)
      refine lv_aload_n hx hb dX11_reads_89 rfl (lv_at hl 2 rfl) ?_
      refine g_cvi (rm := { frames := 5, cells := 0, slots := 0, locals := 402 }) (wn := (fun (u : IA × Int32) => (w_X11_reads cy a_this a_s a_read a_tape a_told w_refusals w_image w_met w_best w_kept w_squares w_far w_queue v_s v_read v_isImage v_tape u.1 v_taped u.2 v_wrongHour v_wrongThing v_soonest v_bestSteps))) (As := []) ha hw hl.1 (c_X11_readsStatement (cy := cy)) (cwV 0 ha.2.2.2.2.1 gX11_reads_X11_readsStatement rfl rfl rfl hq_X11_readsStatement ⟨Nat.le_of_ble_eq_true rfl, Nat.le_of_ble_eq_true rfl⟩) [0, 3, 4] [1, 2] [2, 0, 1, 3, 4] rfl rfl rfl rfl (by decide) rfl (fun _ => rfl) rfl rfl h rfl rfl (Nat.le_of_ble_eq_true rfl) dX11_reads_90 ⟨Nat.le_refl _, Nat.le_refl _⟩ (fun r16 u H locs h hw => ?_)
      obtain ⟨v_told_17, v_at_18⟩ := u
      have hw : wd D A s.heap (w_X11_reads cy a_this a_s a_read a_tape a_told w_refusals w_image w_met w_best w_kept w_squares w_far w_queue v_s v_read v_isImage v_tape v_told_17 v_taped v_at_18 v_wrongHour v_wrongThing v_soonest v_bestSteps) H locs := hw
      obtain ⟨zr16, h⟩ := h
      try dsimp only at h
      refine lv_istore (lv' := [(4, .int r16), (3, .int r15), (2, .int v_at), (0, .ref a_this), (1, .int x1)]) hx hb dX11_reads_93 hl (by decide) rfl (fun ls hl => ?_)
      refine lv_aload_n hx hb dX11_reads_95 rfl (lv_at hl 3 rfl) ?_
      refine lv_iload_n hx hb dX11_reads_96 rfl (lv_at hl 1 rfl) ?_
      refine g_cvi (rm := { frames := 2, cells := 0, slots := 0, locals := 153 }) (wn := (fun (u : IA) => (w_X11_reads cy a_this a_s a_read a_tape a_told w_refusals w_image w_met w_best w_kept w_squares w_far w_queue v_s u v_isImage v_tape v_told_17 v_taped v_at_18 v_wrongHour v_wrongThing v_soonest v_bestSteps))) (As := [.int r15]) ha hw hl.1 (c_X11_comes (cy := cy)) (cwV 1 ha.2.2.2.2.1 gX11_reads_X11_comes rfl rfl rfl hq_X11_comes ⟨Nat.le_of_ble_eq_true rfl, Nat.le_of_ble_eq_true rfl⟩) [0, 2, 4] [1, 3] [2, 0, 3, 1, 4] rfl rfl rfl rfl (by decide) rfl (fun _ => rfl) rfl rfl h rfl rfl (Nat.le_of_ble_eq_true rfl) dX11_reads_97 ⟨Nat.le_refl _, Nat.le_refl _⟩ (fun r19 u H locs h hw => ?_)
      obtain ⟨v_read_20, rfl⟩ : ∃ z, z = u := ⟨_, rfl⟩
      have hw : wd D A s.heap (w_X11_reads cy a_this a_s a_read a_tape a_told w_refusals w_image w_met w_best w_kept w_squares w_far w_queue v_s v_read_20 v_isImage v_tape v_told_17 v_taped v_at_18 v_wrongHour v_wrongThing v_soonest v_bestSteps) H locs := hw
      obtain ⟨zr19, h⟩ := h
      try dsimp only at h
      refine lv_if_ne (tgt := 109) hx hb dX11_reads_100 (by decide) (fun c21 => ?_) (fun c21 => ?_)
      · have h := h.2 c21
        refine lv_goto (tgt := 68) hx hb dX11_reads_109 (by decide) ?_
        exact ih _ _ _ _ _ _ h hw (lv_sub hl [3, 4] rfl)
      · have h := h.1 c21
        refine lv_sipush (v := (-2000 : Int32)) hx hb dX11_reads_103 (by decide) ?_
        refine lv_iload_n hx hb dX11_reads_106 rfl (lv_at hl 2 rfl) ?_
        refine lv_isub hx hb dX11_reads_107 ?_
        exact hr _ _ (v_s, v_read_20, v_told_17, v_at_18) _ _ _ dX11_reads_108 h hw
def wp_X11_reads_114 (x1 : Int32) (v_read : IA) (v_told : IA) (v_at : Int32) (K : Int32 → IA → IA → IA → Int32 → Prop) : Nat → Int32 → IA → Prop
  | 0, _, _ => False
  | n + 1, x2, v_s => ((120 : Int32) ≤ x2 → K x1 v_s v_read v_told v_at) ∧ (¬ ((120 : Int32) ≤ x2) → vp_in x2 120 ∧ (wp_X11_reads_114 x1 v_read v_told v_at K n (x2 + (1 : Int32)) (upd v_s x2.toNatClampNeg (v_read x2.toNatClampNeg))))
set_option maxHeartbeats 4000000 in
set_option maxRecDepth 100000 in
theorem pl_X11_reads_114 {p : Program} {l : Launch} {e : Env} {s : State} {m : MethodId} {args : Array Value} {below : List Frame} {meth : Method} {c : Code} {A : Nat → Prop} {Q : State → Prop} {D : va_G} {cy : ClassId} {a_this a_s a_read a_tape a_told : Nat} {w_refusals w_image w_met w_best w_kept w_squares w_far w_queue : Value} {v_read : IA} {v_isImage : Int32} {v_tape : IA} {v_told : IA} {v_taped : Int32} {v_at : Int32} {v_wrongHour : Int32} {v_wrongThing : Int32} {v_soonest : Int32} {v_bestSteps : Int32} {x1 : Int32} {K : Int32 → IA → IA → IA → Int32 → Prop} (ha : am p s m args c cX11_reads 5 RX11 wsX11_reads D cy A) (hr : rtI p l e { frames := 6, cells := 0, slots := 0, locals := 487 } s m args below meth c 0 0 Q cX11_reads D A (fun (u : IA × IA × IA × Int32) => (w_X11_reads cy a_this a_s a_read a_tape a_told w_refusals w_image w_met w_best w_kept w_squares w_far w_queue u.1 u.2.1 v_isImage v_tape u.2.2.1 v_taped u.2.2.2 v_wrongHour v_wrongThing v_soonest v_bestSteps)) (fun (r : Int32) (u : IA × IA × IA × Int32) => K r u.1 u.2.1 u.2.2.1 u.2.2.2)) : ∀ (n : Nat) (x2 : Int32) (v_s : IA) (H : Heap) (locs : List Loc) (ls : Array Slot), wp_X11_reads_114 x1 v_read v_told v_at K n x2 v_s → wd D A s.heap (w_X11_reads cy a_this a_s a_read a_tape a_told w_refusals w_image w_met w_best w_kept w_squares w_far w_queue v_s v_read v_isImage v_tape v_told v_taped v_at v_wrongHour v_wrongThing v_soonest v_bestSteps) H locs → lv_has ls 5 [(0, .ref a_this), (1, .int x1), (2, .int x2)] → W p l e { frames := 6, cells := 0, slots := 0, locals := 487 } s m args below meth c H locs 0 0 Q (F0 m 114 ls []) := by
  have hx := ha.1
  have hb := ha.2.1
  intro n
  induction n with
  | zero => exact fun _ _ _ _ _ h _ _ => False.elim h
  | succ n ih =>
    intro x2 v_s H locs ls h hw hl
    have h : ((120 : Int32) ≤ x2 → K x1 v_s v_read v_told v_at) ∧ (¬ ((120 : Int32) ≤ x2) → vp_in x2 120 ∧ (wp_X11_reads_114 x1 v_read v_told v_at K n (x2 + (1 : Int32)) (upd v_s x2.toNatClampNeg (v_read x2.toNatClampNeg)))) := h
    refine lv_iload_n hx hb dX11_reads_114 rfl (lv_at hl 2 rfl) ?_
    refine lv_bipush (v := (120 : Int32)) hx hb dX11_reads_115 (by decide) ?_
    refine lv_icmp_ge (tgt := 138) hx hb dX11_reads_117 (by decide) (fun c26 => ?_) (fun c26 => ?_)
    · have h := h.1 c26
      refine lv_iload_n hx hb dX11_reads_138 rfl (lv_at hl 1 rfl) ?_
      exact hr _ _ (v_s, v_read, v_told, v_at) _ _ _ dX11_reads_139 h hw
    · have h := h.2 c26
      refine lv_aload_n hx hb dX11_reads_120 rfl (lv_at hl 0 rfl) ?_
      refine g_get (ci := 11) ha hw 0 1 rfl hi_X11_reads_11 (by decide) (List.mem_of_getElem? (i := 4) rfl) rfl rfl dX11_reads_121 ?_
      refine lv_iload_n hx hb dX11_reads_124 rfl (lv_at hl 2 rfl) ?_
      refine lv_aload_n hx hb dX11_reads_125 rfl (lv_at hl 0 rfl) ?_
      refine g_get (ci := 11) ha hw 0 3 rfl hi_X11_reads_11 (by decide) (List.mem_of_getElem? (i := 3) rfl) rfl rfl dX11_reads_126 ?_
      refine lv_iload_n hx hb dX11_reads_129 rfl (lv_at hl 2 rfl) ?_
      obtain ⟨z27, h⟩ := h
      refine g_ald ha hw 2 rfl z27 dX11_reads_130 ?_
      refine g_ast (wn := (w_X11_reads cy a_this a_s a_read a_tape a_told w_refusals w_image w_met w_best w_kept w_squares w_far w_queue (upd v_s x2.toNatClampNeg (v_read x2.toNatClampNeg)) v_read v_isImage v_tape v_told v_taped v_at v_wrongHour v_wrongThing v_soonest v_bestSteps)) ha hw 1 rfl z27 rfl dX11_reads_131 (fun H locs hw => ?_)
      refine lv_iinc (v := x2 + (1 : Int32)) (lv' := [(2, .int (x2 + (1 : Int32))), (0, .ref a_this), (1, .int x1)]) hx hb dX11_reads_132 hl (k := 2) rfl rfl (by decide) rfl (fun ls hl => ?_)
      refine lv_goto (tgt := 114) hx hb dX11_reads_135 (by decide) ?_
      exact ih _ _ _ _ _ h hw (lv_sub hl [1, 2, 0] rfl)
def wp_X11_reads (v_s : IA) (v_read : IA) (v_tape : IA) (v_told : IA) (v_taped : Int32) (v_at : Int32) (K : Int32 → IA → IA → IA → Int32 → Prop) : Prop := ∃ n31 : Nat, wp_X11_reads_7 v_s v_read v_tape v_taped (fun (x1_6 : Int32) (x2_7 : Int32) (v_told_8 : IA) (v_at_9 : Int32) => ∃ n30 : Nat, wp_X11_reads_39 v_s (fun (v_read_12 : IA) (v_at_13 : Int32) => ∃ n29 : Nat, wp_X11_reads_68 v_s v_tape v_taped (fun (x2_22 : Int32) (v_read_23 : IA) (v_told_24 : IA) (v_at_25 : Int32) => ∃ n28 : Nat, wp_X11_reads_114 x1_6 v_read_23 v_told_24 v_at_25 K n28 x2_22 v_s) K n29 v_read_12 v_told_8 v_at_13) K n30 x2_7 v_read v_at_9) K n31 (0 : Int32) v_told (0 : Int32)
set_option maxHeartbeats 4000000 in
set_option maxRecDepth 100000 in
theorem c_X11_reads {l : Launch} {D : va_G} {cy : ClassId} {a_this a_s a_read a_tape a_told : Nat} {w_refusals w_image w_met w_best w_kept w_squares w_far w_queue : Value} {v_s : IA} {v_read : IA} {v_isImage : Int32} {v_tape : IA} {v_told : IA} {v_taped : Int32} {v_at : Int32} {v_wrongHour : Int32} {v_wrongThing : Int32} {v_soonest : Int32} {v_bestSteps : Int32} {K : Int32 → IA → IA → IA → Int32 → Prop} : CtI l yX11_reads wsX11_reads { frames := 6, cells := 0, slots := 0, locals := 487 } 0 0 D cy [.ref a_this] (w_X11_reads cy a_this a_s a_read a_tape a_told w_refusals w_image w_met w_best w_kept w_squares w_far w_queue v_s v_read v_isImage v_tape v_told v_taped v_at v_wrongHour v_wrongThing v_soonest v_bestSteps) (wp_X11_reads v_s v_read v_tape v_told v_taped v_at K) (fun (u : IA × IA × IA × Int32) => (w_X11_reads cy a_this a_s a_read a_tape a_told w_refusals w_image w_met w_best w_kept w_squares w_far w_queue u.1 u.2.1 v_isImage v_tape u.2.2.1 v_taped u.2.2.2 v_wrongHour v_wrongThing v_soonest v_bestSteps)) (fun (r : Int32) (u : IA × IA × IA × Int32) => K r u.1 u.2.1 u.2.2.1 u.2.2.2) := by
  refine CtI.mk (cc := cX11_reads) (nL := 5) (ty := .int) (by decide) rfl (Nat.le_of_ble_eq_true rfl) (fun r u h => rfl) ?_
  intro p e s m args below meth c A Q ha hr _ h ls hl hw
  have ha : am p s m args c cX11_reads 5 RX11 wsX11_reads D cy A := ha
  have hx := ha.1
  have hb := ha.2.1
  have hl : lv_has ls 5 [(0, .ref a_this)] := hl
  have h : ∃ n31 : Nat, wp_X11_reads_7 v_s v_read v_tape v_taped (fun (x1_6 : Int32) (x2_7 : Int32) (v_told_8 : IA) (v_at_9 : Int32) => ∃ n30 : Nat, wp_X11_reads_39 v_s (fun (v_read_12 : IA) (v_at_13 : Int32) => ∃ n29 : Nat, wp_X11_reads_68 v_s v_tape v_taped (fun (x2_22 : Int32) (v_read_23 : IA) (v_told_24 : IA) (v_at_25 : Int32) => ∃ n28 : Nat, wp_X11_reads_114 x1_6 v_read_23 v_told_24 v_at_25 K n28 x2_22 v_s) K n29 v_read_12 v_told_8 v_at_13) K n30 x2_7 v_read v_at_9) K n31 (0 : Int32) v_told (0 : Int32) := h
  refine lv_aload_n hx hb dX11_reads_0 rfl (lv_at hl 0 rfl) ?_
  refine lv_iconst (v := (0 : Int32)) hx hb dX11_reads_1 (by decide) ?_
  refine g_put (ci := 11) (wn := (w_X11_reads cy a_this a_s a_read a_tape a_told w_refusals w_image w_met w_best w_kept w_squares w_far w_queue v_s v_read v_isImage v_tape v_told v_taped (0 : Int32) v_wrongHour v_wrongThing v_soonest v_bestSteps)) ha hw 0 8 rfl hi_X11_reads_11 tyX11_ok nmX11 (by decide) (List.mem_of_getElem? (i := 1) rfl) rfl rfl rfl rfl (Nat.le_of_ble_eq_true rfl) rfl dX11_reads_2 (fun H locs hw => ?_)
  refine lv_iconst (v := (0 : Int32)) hx hb dX11_reads_5 (by decide) ?_
  refine lv_istore_n (lv' := [(1, .int (0 : Int32)), (0, .ref a_this)]) hx hb dX11_reads_6 rfl hl (by decide) rfl (fun ls hl => ?_)
  obtain ⟨n9, h⟩ := h
  refine pl_X11_reads_7 ha hr ?_ n9 _ _ _ _ _ _ h hw (lv_sub hl [1, 0] rfl)
  · intro x1_6 x2_7 v_told_8 v_at_9 H locs ls h hw hl
    try dsimp only at h
    obtain ⟨n9, h⟩ := h
    refine pl_X11_reads_39 ha hr ?_ n9 _ _ _ _ _ _ h hw (lv_sub hl [0, 1, 2] rfl)
    · intro v_read_12 v_at_13 H locs ls h hw hl
      try dsimp only at h
      obtain ⟨n9, h⟩ := h
      refine pl_X11_reads_68 ha hr ?_ n9 _ _ _ _ _ _ h hw (lv_sub hl [0, 1] rfl)
      · intro x2_22 v_read_23 v_told_24 v_at_25 H locs ls h hw hl
        try dsimp only at h
        obtain ⟨n9, h⟩ := h
        refine pl_X11_reads_114 ha hr n9 _ _ _ _ _ h hw (lv_sub hl [0, 1, 2] rfl)
theorem hq_X11_house : yX11_house.cls = RX11 ∧ yX11_house.cls ≠ "java/lang/invoke/MethodHandle" ∧ yX11_house.cls ≠ "java/lang/invoke/VarHandle" ∧ (parseMethodDescriptor yX11_house.desc).map (fun d => d.parameters.length) = some 0 := by decide +kernel
def w_X11_house (cy : ClassId) (a_this a_s a_read a_tape a_told : Nat) (w_refusals w_image w_met w_best w_kept w_squares w_far w_queue : Value) (v_s : IA) (v_read : IA) (v_isImage : Int32) (v_tape : IA) (v_told : IA) (v_taped : Int32) (v_at : Int32) (v_wrongHour : Int32) (v_wrongThing : Int32) (v_soonest : Int32) (v_bestSteps : Int32) : va_W := [(a_this, .inr (11, [w_refusals, .ref a_s, w_image, .ref a_read, .int v_isImage, .ref a_tape, .ref a_told, .int v_taped, .int v_at, w_met, .int v_wrongHour, .int v_wrongThing, w_best, w_kept, .int v_soonest, .int v_bestSteps, w_squares, w_far, w_queue])), (a_s, .inl (cy, 120, .inl v_s)), (a_read, .inl (cy, 120, .inl v_read)), (a_tape, .inl (cy, 48, .inl v_tape)), (a_told, .inl (cy, 4, .inl v_told))]
theorem hi_X11_house_11 : ∀ w ∈ u_ws RX11 TX11 19, w ∈ wsX11_house := fun _ h => List.mem_cons_of_mem _ (List.mem_append_right _ h)
def wp_X11_house (v_s : IA) (v_read : IA) (v_tape : IA) (v_told : IA) (v_taped : Int32) (v_at : Int32) (K : Int32 → IA → IA → IA → Int32 → Int32 → Prop) : Prop := wp_X11_reads v_s v_read v_tape v_told v_taped v_at (fun (r1 : Int32) (v_s_2 : IA) (v_read_3 : IA) (v_told_4 : IA) (v_at_5 : Int32) => K r1 v_s_2 v_read_3 v_told_4 (0 : Int32) v_at_5)
set_option maxHeartbeats 4000000 in
set_option maxRecDepth 100000 in
theorem c_X11_house {l : Launch} {D : va_G} {cy : ClassId} {a_this a_s a_read a_tape a_told : Nat} {w_refusals w_image w_met w_best w_kept w_squares w_far w_queue : Value} {v_s : IA} {v_read : IA} {v_isImage : Int32} {v_tape : IA} {v_told : IA} {v_taped : Int32} {v_at : Int32} {v_wrongHour : Int32} {v_wrongThing : Int32} {v_soonest : Int32} {v_bestSteps : Int32} {K : Int32 → IA → IA → IA → Int32 → Int32 → Prop} : CtI l yX11_house wsX11_house { frames := 7, cells := 0, slots := 0, locals := 575 } 0 0 D cy [.ref a_this] (w_X11_house cy a_this a_s a_read a_tape a_told w_refusals w_image w_met w_best w_kept w_squares w_far w_queue v_s v_read v_isImage v_tape v_told v_taped v_at v_wrongHour v_wrongThing v_soonest v_bestSteps) (wp_X11_house v_s v_read v_tape v_told v_taped v_at K) (fun (u : IA × IA × IA × Int32 × Int32) => (w_X11_house cy a_this a_s a_read a_tape a_told w_refusals w_image w_met w_best w_kept w_squares w_far w_queue u.1 u.2.1 v_isImage v_tape u.2.2.1 u.2.2.2.1 u.2.2.2.2 v_wrongHour v_wrongThing v_soonest v_bestSteps)) (fun (r : Int32) (u : IA × IA × IA × Int32 × Int32) => K r u.1 u.2.1 u.2.2.1 u.2.2.2.1 u.2.2.2.2) := by
  refine CtI.mk (cc := cX11_house) (nL := 2) (ty := .int) (by decide) rfl (Nat.le_of_ble_eq_true rfl) (fun r u h => rfl) ?_
  intro p e s m args below meth c A Q ha hr _ h ls hl hw
  have ha : am p s m args c cX11_house 2 RX11 wsX11_house D cy A := ha
  have hx := ha.1
  have hb := ha.2.1
  have hl : lv_has ls 2 [(0, .ref a_this)] := hl
  have h : wp_X11_reads v_s v_read v_tape v_told v_taped v_at (fun (r1 : Int32) (v_s_2 : IA) (v_read_3 : IA) (v_told_4 : IA) (v_at_5 : Int32) => K r1 v_s_2 v_read_3 v_told_4 (0 : Int32) v_at_5) := h
  refine lv_aload_n hx hb dX11_house_0 rfl (lv_at hl 0 rfl) ?_
  refine g_cvi (rm := { frames := 6, cells := 0, slots := 0, locals := 487 }) (wn := (fun (u : IA × IA × IA × Int32) => (w_X11_house cy a_this a_s a_read a_tape a_told w_refusals w_image w_met w_best w_kept w_squares w_far w_queue u.1 u.2.1 v_isImage v_tape u.2.2.1 v_taped u.2.2.2 v_wrongHour v_wrongThing v_soonest v_bestSteps))) (As := []) ha hw hl.1 (c_X11_reads (cy := cy)) (cwV 0 ha.2.2.2.2.1 gX11_house_X11_reads rfl rfl rfl hq_X11_reads ⟨Nat.le_of_ble_eq_true rfl, Nat.le_of_ble_eq_true rfl⟩) [0, 1, 2, 3, 4] [] [0, 1, 2, 3, 4] rfl rfl rfl rfl (by decide) rfl (fun _ => rfl) rfl rfl h rfl rfl (Nat.le_of_ble_eq_true rfl) dX11_house_1 ⟨Nat.le_refl _, Nat.le_refl _⟩ (fun r1 u H locs h hw => ?_)
  obtain ⟨v_s_2, v_read_3, v_told_4, v_at_5⟩ := u
  have hw : wd D A s.heap (w_X11_house cy a_this a_s a_read a_tape a_told w_refusals w_image w_met w_best w_kept w_squares w_far w_queue v_s_2 v_read_3 v_isImage v_tape v_told_4 v_taped v_at_5 v_wrongHour v_wrongThing v_soonest v_bestSteps) H locs := hw
  try dsimp only at h
  refine lv_istore_n (lv' := [(1, .int r1), (0, .ref a_this)]) hx hb dX11_house_4 rfl hl (by decide) rfl (fun ls hl => ?_)
  refine lv_aload_n hx hb dX11_house_5 rfl (lv_at hl 1 rfl) ?_
  refine lv_iconst (v := (0 : Int32)) hx hb dX11_house_6 (by decide) ?_
  refine g_put (ci := 11) (wn := (w_X11_house cy a_this a_s a_read a_tape a_told w_refusals w_image w_met w_best w_kept w_squares w_far w_queue v_s_2 v_read_3 v_isImage v_tape v_told_4 (0 : Int32) v_at_5 v_wrongHour v_wrongThing v_soonest v_bestSteps)) ha hw 0 7 rfl hi_X11_house_11 tyX11_ok nmX11 (by decide) (List.mem_of_getElem? (i := 1) rfl) rfl rfl rfl rfl (Nat.le_of_ble_eq_true rfl) rfl dX11_house_7 (fun H locs hw => ?_)
  refine lv_iload_n hx hb dX11_house_10 rfl (lv_at hl 0 rfl) ?_
  exact hr _ _ (v_s_2, v_read_3, v_told_4, (0 : Int32), v_at_5) _ _ _ dX11_house_11 h hw
theorem hq_X11_readsFloor : yX11_readsFloor.cls = RX11 ∧ yX11_readsFloor.cls ≠ "java/lang/invoke/MethodHandle" ∧ yX11_readsFloor.cls ≠ "java/lang/invoke/VarHandle" ∧ (parseMethodDescriptor yX11_readsFloor.desc).map (fun d => d.parameters.length) = some 0 := by decide +kernel
def w_X11_readsFloor (cy : ClassId) (a_this a_read a_tape : Nat) (w_refusals w_s w_image w_told w_met w_best w_kept w_squares w_far w_queue : Value) (v_read : IA) (v_isImage : Int32) (v_tape : IA) (v_taped : Int32) (v_at : Int32) (v_wrongHour : Int32) (v_wrongThing : Int32) (v_soonest : Int32) (v_bestSteps : Int32) : va_W := [(a_this, .inr (11, [w_refusals, w_s, w_image, .ref a_read, .int v_isImage, .ref a_tape, w_told, .int v_taped, .int v_at, w_met, .int v_wrongHour, .int v_wrongThing, w_best, w_kept, .int v_soonest, .int v_bestSteps, w_squares, w_far, w_queue])), (a_read, .inl (cy, 120, .inl v_read)), (a_tape, .inl (cy, 48, .inl v_tape))]
theorem hi_X11_readsFloor_11 : ∀ w ∈ u_ws RX11 TX11 19, w ∈ wsX11_readsFloor := fun _ h => List.mem_cons_of_mem _ (List.mem_append_right _ h)
def wp_X11_readsFloor_7 (E38 : Int32 → Int32 → Int32 → Int32 → IA → Prop) (K : Int32 → IA → Int32 → Prop) : Nat → Int32 → IA → Prop
  | 0, _, _ => False
  | n + 1, x1, v_read => ((25 : Int32) ≤ x1 → E38 (0 : Int32) (0 : Int32) (0 : Int32) (0 : Int32) v_read) ∧ (¬ ((25 : Int32) ≤ x1) → vp_in ((95 : Int32) + x1) 120 ∧ (wp_X11_readsFloor_7 E38 K n (x1 + (1 : Int32)) (upd v_read ((95 : Int32) + x1).toNatClampNeg (0 : Int32))))
set_option maxHeartbeats 4000000 in
set_option maxRecDepth 100000 in
theorem pl_X11_readsFloor_7 {p : Program} {l : Launch} {e : Env} {s : State} {m : MethodId} {args : Array Value} {below : List Frame} {meth : Method} {c : Code} {A : Nat → Prop} {Q : State → Prop} {D : va_G} {cy : ClassId} {a_this a_read a_tape : Nat} {w_refusals w_s w_image w_told w_met w_best w_kept w_squares w_far w_queue : Value} {v_isImage : Int32} {v_tape : IA} {v_taped : Int32} {v_at : Int32} {v_wrongHour : Int32} {v_wrongThing : Int32} {v_soonest : Int32} {v_bestSteps : Int32} {K : Int32 → IA → Int32 → Prop} {E38 : Int32 → Int32 → Int32 → Int32 → IA → Prop} (ha : am p s m args c cX11_readsFloor 6 RX11 wsX11_readsFloor D cy A) (hr : rtI p l e { frames := 3, cells := 0, slots := 0, locals := 233 } s m args below meth c 0 0 Q cX11_readsFloor D A (fun (u : IA × Int32) => (w_X11_readsFloor cy a_this a_read a_tape w_refusals w_s w_image w_told w_met w_best w_kept w_squares w_far w_queue u.1 v_isImage v_tape v_taped u.2 v_wrongHour v_wrongThing v_soonest v_bestSteps)) (fun (r : Int32) (u : IA × Int32) => nz r ∧ K r u.1 u.2)) (hE38 : ∀ (x1' : Int32) (x2' : Int32) (x3' : Int32) (x4' : Int32) (v_read' : IA) (H : Heap) (locs : List Loc) (ls : Array Slot), E38 x1' x2' x3' x4' v_read' → wd D A s.heap (w_X11_readsFloor cy a_this a_read a_tape w_refusals w_s w_image w_told w_met w_best w_kept w_squares w_far w_queue v_read' v_isImage v_tape v_taped v_at v_wrongHour v_wrongThing v_soonest v_bestSteps) H locs → lv_has ls 6 [(0, .ref a_this), (1, .int x1'), (2, .int x2'), (3, .int x3'), (4, .int x4')] → W p l e { frames := 3, cells := 0, slots := 0, locals := 233 } s m args below meth c H locs 0 0 Q (F0 m 38 ls [])) : ∀ (n : Nat) (x1 : Int32) (v_read : IA) (H : Heap) (locs : List Loc) (ls : Array Slot), wp_X11_readsFloor_7 E38 K n x1 v_read → wd D A s.heap (w_X11_readsFloor cy a_this a_read a_tape w_refusals w_s w_image w_told w_met w_best w_kept w_squares w_far w_queue v_read v_isImage v_tape v_taped v_at v_wrongHour v_wrongThing v_soonest v_bestSteps) H locs → lv_has ls 6 [(0, .ref a_this), (1, .int x1)] → W p l e { frames := 3, cells := 0, slots := 0, locals := 233 } s m args below meth c H locs 0 0 Q (F0 m 7 ls []) := by
  have hx := ha.1
  have hb := ha.2.1
  intro n
  induction n with
  | zero => exact fun _ _ _ _ _ h _ _ => False.elim h
  | succ n ih =>
    intro x1 v_read H locs ls h hw hl
    have h : ((25 : Int32) ≤ x1 → E38 (0 : Int32) (0 : Int32) (0 : Int32) (0 : Int32) v_read) ∧ (¬ ((25 : Int32) ≤ x1) → vp_in ((95 : Int32) + x1) 120 ∧ (wp_X11_readsFloor_7 E38 K n (x1 + (1 : Int32)) (upd v_read ((95 : Int32) + x1).toNatClampNeg (0 : Int32)))) := h
    refine lv_iload_n hx hb dX11_readsFloor_7 rfl (lv_at hl 1 rfl) ?_
    refine lv_bipush (v := (25 : Int32)) hx hb dX11_readsFloor_8 (by decide) ?_
    refine lv_icmp_ge (tgt := 29) hx hb dX11_readsFloor_10 (by decide) (fun c1 => ?_) (fun c1 => ?_)
    · have h := h.1 c1
      refine lv_iconst (v := (0 : Int32)) hx hb dX11_readsFloor_29 (by decide) ?_
      refine lv_istore_n (lv' := [(1, .int (0 : Int32)), (0, .ref a_this)]) hx hb dX11_readsFloor_30 rfl hl (by decide) rfl (fun ls hl => ?_)
      refine lv_iconst (v := (0 : Int32)) hx hb dX11_readsFloor_31 (by decide) ?_
      refine lv_istore_n (lv' := [(2, .int (0 : Int32)), (1, .int (0 : Int32)), (0, .ref a_this)]) hx hb dX11_readsFloor_32 rfl hl (by decide) rfl (fun ls hl => ?_)
      refine lv_iconst (v := (0 : Int32)) hx hb dX11_readsFloor_33 (by decide) ?_
      refine lv_istore_n (lv' := [(3, .int (0 : Int32)), (2, .int (0 : Int32)), (1, .int (0 : Int32)), (0, .ref a_this)]) hx hb dX11_readsFloor_34 rfl hl (by decide) rfl (fun ls hl => ?_)
      refine lv_iconst (v := (0 : Int32)) hx hb dX11_readsFloor_35 (by decide) ?_
      refine lv_istore (lv' := [(4, .int (0 : Int32)), (3, .int (0 : Int32)), (2, .int (0 : Int32)), (1, .int (0 : Int32)), (0, .ref a_this)]) hx hb dX11_readsFloor_36 hl (by decide) rfl (fun ls hl => ?_)
      exact hE38 _ _ _ _ _ _ _ _ h hw (lv_sub hl [4, 3, 2, 1, 0] rfl)
    · have h := h.2 c1
      refine lv_aload_n hx hb dX11_readsFloor_13 rfl (lv_at hl 0 rfl) ?_
      refine g_get (ci := 11) ha hw 0 3 rfl hi_X11_readsFloor_11 (by decide) (List.mem_of_getElem? (i := 2) rfl) rfl rfl dX11_readsFloor_14 ?_
      refine lv_bipush (v := (95 : Int32)) hx hb dX11_readsFloor_17 (by decide) ?_
      refine lv_iload_n hx hb dX11_readsFloor_19 rfl (lv_at hl 1 rfl) ?_
      refine lv_iadd hx hb dX11_readsFloor_20 ?_
      refine lv_iconst (v := (0 : Int32)) hx hb dX11_readsFloor_21 (by decide) ?_
      obtain ⟨z2, h⟩ := h
      refine g_ast (wn := (w_X11_readsFloor cy a_this a_read a_tape w_refusals w_s w_image w_told w_met w_best w_kept w_squares w_far w_queue (upd v_read ((95 : Int32) + x1).toNatClampNeg (0 : Int32)) v_isImage v_tape v_taped v_at v_wrongHour v_wrongThing v_soonest v_bestSteps)) ha hw 1 rfl z2 rfl dX11_readsFloor_22 (fun H locs hw => ?_)
      refine lv_iinc (v := x1 + (1 : Int32)) (lv' := [(1, .int (x1 + (1 : Int32))), (0, .ref a_this)]) hx hb dX11_readsFloor_23 hl (k := 1) rfl rfl (by decide) rfl (fun ls hl => ?_)
      refine lv_goto (tgt := 7) hx hb dX11_readsFloor_26 (by decide) ?_
      exact ih _ _ _ _ _ h hw (lv_sub hl [1, 0] rfl)
def wp_X11_readsFloor_151 (x1 : Int32) (v_tape : IA) (v_taped : Int32) (E41 : Int32 → Int32 → IA → Int32 → Prop) (K : Int32 → IA → Int32 → Prop) (x5 : Int32) (v_read : IA) (v_at : Int32) (t0 : Int32) : Prop := wp_X11_sign v_tape v_taped v_at (fun (r20 : Int32) => (r20 = (46 : Int32) → vp_in (((95 : Int32) + ((5 : Int32) * x1)) + x5) 120 ∧ (E41 t0 (x5 + (1 : Int32)) (upd v_read (((95 : Int32) + ((5 : Int32) * x1)) + x5).toNatClampNeg (1 : Int32)) (v_at + (1 : Int32)))) ∧ (¬ (r20 = (46 : Int32)) → wp_X11_sign v_tape v_taped v_at (fun (r22 : Int32) => (r22 = (100 : Int32) → vp_in (((95 : Int32) + ((5 : Int32) * x1)) + x5) 120 ∧ (E41 t0 (x5 + (1 : Int32)) (upd v_read (((95 : Int32) + ((5 : Int32) * x1)) + x5).toNatClampNeg (2 : Int32)) (v_at + (1 : Int32)))) ∧ (¬ (r22 = (100 : Int32)) → vp_in (((95 : Int32) + ((5 : Int32) * x1)) + x5) 120 ∧ (E41 t0 (x5 + (1 : Int32)) (upd v_read (((95 : Int32) + ((5 : Int32) * x1)) + x5).toNatClampNeg (0 : Int32)) (v_at + (1 : Int32)))))))
set_option maxHeartbeats 4000000 in
set_option maxRecDepth 100000 in
theorem pl_X11_readsFloor_151 {p : Program} {l : Launch} {e : Env} {s : State} {m : MethodId} {args : Array Value} {below : List Frame} {meth : Method} {c : Code} {A : Nat → Prop} {Q : State → Prop} {D : va_G} {cy : ClassId} {a_this a_read a_tape : Nat} {w_refusals w_s w_image w_told w_met w_best w_kept w_squares w_far w_queue : Value} {v_isImage : Int32} {v_tape : IA} {v_taped : Int32} {v_wrongHour : Int32} {v_wrongThing : Int32} {v_soonest : Int32} {v_bestSteps : Int32} {x1 : Int32} {x2 : Int32} {x3 : Int32} {K : Int32 → IA → Int32 → Prop} {E41 : Int32 → Int32 → IA → Int32 → Prop} (ha : am p s m args c cX11_readsFloor 6 RX11 wsX11_readsFloor D cy A) (hr : rtI p l e { frames := 3, cells := 0, slots := 0, locals := 233 } s m args below meth c 0 0 Q cX11_readsFloor D A (fun (u : IA × Int32) => (w_X11_readsFloor cy a_this a_read a_tape w_refusals w_s w_image w_told w_met w_best w_kept w_squares w_far w_queue u.1 v_isImage v_tape v_taped u.2 v_wrongHour v_wrongThing v_soonest v_bestSteps)) (fun (r : Int32) (u : IA × Int32) => nz r ∧ K r u.1 u.2)) (hE41 : ∀ (x4' : Int32) (x5' : Int32) (v_read' : IA) (v_at' : Int32) (H : Heap) (locs : List Loc) (ls : Array Slot), E41 x4' x5' v_read' v_at' → wd D A s.heap (w_X11_readsFloor cy a_this a_read a_tape w_refusals w_s w_image w_told w_met w_best w_kept w_squares w_far w_queue v_read' v_isImage v_tape v_taped v_at' v_wrongHour v_wrongThing v_soonest v_bestSteps) H locs → lv_has ls 6 [(0, .ref a_this), (1, .int x1), (2, .int x2), (3, .int x3), (4, .int x4'), (5, .int x5')] → W p l e { frames := 3, cells := 0, slots := 0, locals := 233 } s m args below meth c H locs 0 0 Q (F0 m 41 ls [])) {x5 : Int32} {v_read : IA} {v_at : Int32} {t0 : Int32} {H : Heap} {locs : List Loc} {ls : Array Slot} : wp_X11_readsFloor_151 x1 v_tape v_taped E41 K x5 v_read v_at t0 → wd D A s.heap (w_X11_readsFloor cy a_this a_read a_tape w_refusals w_s w_image w_told w_met w_best w_kept w_squares w_far w_queue v_read v_isImage v_tape v_taped v_at v_wrongHour v_wrongThing v_soonest v_bestSteps) H locs → lv_has ls 6 [(0, .ref a_this), (1, .int x1), (2, .int x2), (3, .int x3), (5, .int x5)] → W p l e { frames := 3, cells := 0, slots := 0, locals := 233 } s m args below meth c H locs 0 0 Q (F0 m 151 ls [.int t0]) := by
  have hx := ha.1
  have hb := ha.2.1
  intro h hw hl
  have h : wp_X11_sign v_tape v_taped v_at (fun (r20 : Int32) => (r20 = (46 : Int32) → vp_in (((95 : Int32) + ((5 : Int32) * x1)) + x5) 120 ∧ (E41 t0 (x5 + (1 : Int32)) (upd v_read (((95 : Int32) + ((5 : Int32) * x1)) + x5).toNatClampNeg (1 : Int32)) (v_at + (1 : Int32)))) ∧ (¬ (r20 = (46 : Int32)) → wp_X11_sign v_tape v_taped v_at (fun (r22 : Int32) => (r22 = (100 : Int32) → vp_in (((95 : Int32) + ((5 : Int32) * x1)) + x5) 120 ∧ (E41 t0 (x5 + (1 : Int32)) (upd v_read (((95 : Int32) + ((5 : Int32) * x1)) + x5).toNatClampNeg (2 : Int32)) (v_at + (1 : Int32)))) ∧ (¬ (r22 = (100 : Int32)) → vp_in (((95 : Int32) + ((5 : Int32) * x1)) + x5) 120 ∧ (E41 t0 (x5 + (1 : Int32)) (upd v_read (((95 : Int32) + ((5 : Int32) * x1)) + x5).toNatClampNeg (0 : Int32)) (v_at + (1 : Int32))))))) := h
  refine lv_istore (lv' := [(4, .int t0), (0, .ref a_this), (1, .int x1), (2, .int x2), (3, .int x3), (5, .int x5)]) hx hb dX11_readsFloor_151 hl (by decide) rfl (fun ls hl => ?_)
  refine lv_aload_n hx hb dX11_readsFloor_153 rfl (lv_at hl 1 rfl) ?_
  refine g_get (ci := 11) ha hw 0 3 rfl hi_X11_readsFloor_11 (by decide) (List.mem_of_getElem? (i := 2) rfl) rfl rfl dX11_readsFloor_154 ?_
  refine lv_bipush (v := (95 : Int32)) hx hb dX11_readsFloor_157 (by decide) ?_
  refine lv_iconst (v := (5 : Int32)) hx hb dX11_readsFloor_159 (by decide) ?_
  refine lv_iload_n hx hb dX11_readsFloor_160 rfl (lv_at hl 2 rfl) ?_
  refine lv_imul hx hb dX11_readsFloor_161 ?_
  refine lv_iadd hx hb dX11_readsFloor_162 ?_
  refine lv_iload hx hb dX11_readsFloor_163 (lv_at hl 5 rfl) ?_
  refine lv_iadd hx hb dX11_readsFloor_165 ?_
  refine lv_aload_n hx hb dX11_readsFloor_166 rfl (lv_at hl 1 rfl) ?_
  refine g_cvi (rm := { frames := 1, cells := 0, slots := 0, locals := 64 }) (wn := (fun (u : Unit) => (w_X11_readsFloor cy a_this a_read a_tape w_refusals w_s w_image w_told w_met w_best w_kept w_squares w_far w_queue v_read v_isImage v_tape v_taped v_at v_wrongHour v_wrongThing v_soonest v_bestSteps))) (As := []) ha hw hl.1 (c_X11_sign (cy := cy)) (cwV 0 ha.2.2.2.2.1 gX11_readsFloor_X11_sign rfl rfl rfl hq_X11_sign ⟨Nat.le_of_ble_eq_true rfl, Nat.le_of_ble_eq_true rfl⟩) [0, 2] [1] [1, 0, 2] rfl rfl rfl rfl (by decide) rfl (fun _ => rfl) rfl rfl h rfl rfl (Nat.le_of_ble_eq_true rfl) dX11_readsFloor_167 ⟨Nat.le_refl _, Nat.le_refl _⟩ (fun r20 u H locs h hw => ?_)
  have hw : wd D A s.heap (w_X11_readsFloor cy a_this a_read a_tape w_refusals w_s w_image w_told w_met w_best w_kept w_squares w_far w_queue v_read v_isImage v_tape v_taped v_at v_wrongHour v_wrongThing v_soonest v_bestSteps) H locs := hw
  try dsimp only at h
  refine lv_bipush (v := (46 : Int32)) hx hb dX11_readsFloor_170 (by decide) ?_
  refine lv_icmp_ne (tgt := 179) hx hb dX11_readsFloor_172 (by decide) (fun c21 => ?_) (fun c21 => ?_)
  · have h := h.2 c21
    refine lv_aload_n hx hb dX11_readsFloor_179 rfl (lv_at hl 1 rfl) ?_
    refine g_cvi (rm := { frames := 1, cells := 0, slots := 0, locals := 64 }) (wn := (fun (u : Unit) => (w_X11_readsFloor cy a_this a_read a_tape w_refusals w_s w_image w_told w_met w_best w_kept w_squares w_far w_queue v_read v_isImage v_tape v_taped v_at v_wrongHour v_wrongThing v_soonest v_bestSteps))) (As := []) ha hw hl.1 (c_X11_sign (cy := cy)) (cwV 0 ha.2.2.2.2.1 gX11_readsFloor_X11_sign rfl rfl rfl hq_X11_sign ⟨Nat.le_of_ble_eq_true rfl, Nat.le_of_ble_eq_true rfl⟩) [0, 2] [1] [1, 0, 2] rfl rfl rfl rfl (by decide) rfl (fun _ => rfl) rfl rfl h rfl rfl (Nat.le_of_ble_eq_true rfl) dX11_readsFloor_180 ⟨Nat.le_refl _, Nat.le_refl _⟩ (fun r22 u H locs h hw => ?_)
    have hw : wd D A s.heap (w_X11_readsFloor cy a_this a_read a_tape w_refusals w_s w_image w_told w_met w_best w_kept w_squares w_far w_queue v_read v_isImage v_tape v_taped v_at v_wrongHour v_wrongThing v_soonest v_bestSteps) H locs := hw
    try dsimp only at h
    refine lv_bipush (v := (100 : Int32)) hx hb dX11_readsFloor_183 (by decide) ?_
    refine lv_icmp_ne (tgt := 192) hx hb dX11_readsFloor_185 (by decide) (fun c23 => ?_) (fun c23 => ?_)
    · have h := h.2 c23
      refine lv_iconst (v := (0 : Int32)) hx hb dX11_readsFloor_192 (by decide) ?_
      obtain ⟨z24, h⟩ := h
      refine g_ast (wn := (w_X11_readsFloor cy a_this a_read a_tape w_refusals w_s w_image w_told w_met w_best w_kept w_squares w_far w_queue (upd v_read (((95 : Int32) + ((5 : Int32) * x1)) + x5).toNatClampNeg (0 : Int32)) v_isImage v_tape v_taped v_at v_wrongHour v_wrongThing v_soonest v_bestSteps)) ha hw 1 rfl z24 rfl dX11_readsFloor_193 (fun H locs hw => ?_)
      refine lv_iinc (v := x5 + (1 : Int32)) (lv' := [(5, .int (x5 + (1 : Int32))), (4, .int t0), (0, .ref a_this), (1, .int x1), (2, .int x2), (3, .int x3)]) hx hb dX11_readsFloor_194 hl (k := 5) rfl rfl (by decide) rfl (fun ls hl => ?_)
      refine lv_aload_n hx hb dX11_readsFloor_197 rfl (lv_at hl 2 rfl) ?_
      refine lv_dup hx hb dX11_readsFloor_198 rfl ?_
      refine g_get (ci := 11) ha hw 0 8 rfl hi_X11_readsFloor_11 (by decide) (List.mem_of_getElem? (i := 1) rfl) rfl rfl dX11_readsFloor_199 ?_
      refine lv_iconst (v := (1 : Int32)) hx hb dX11_readsFloor_202 (by decide) ?_
      refine lv_iadd hx hb dX11_readsFloor_203 ?_
      refine g_put (ci := 11) (wn := (w_X11_readsFloor cy a_this a_read a_tape w_refusals w_s w_image w_told w_met w_best w_kept w_squares w_far w_queue (upd v_read (((95 : Int32) + ((5 : Int32) * x1)) + x5).toNatClampNeg (0 : Int32)) v_isImage v_tape v_taped (v_at + (1 : Int32)) v_wrongHour v_wrongThing v_soonest v_bestSteps)) ha hw 0 8 rfl hi_X11_readsFloor_11 tyX11_ok nmX11 (by decide) (List.mem_of_getElem? (i := 1) rfl) rfl rfl rfl rfl (Nat.le_of_ble_eq_true rfl) rfl dX11_readsFloor_204 (fun H locs hw => ?_)
      refine lv_goto (tgt := 41) hx hb dX11_readsFloor_207 (by decide) ?_
      exact hE41 _ _ _ _ _ _ _ h hw (lv_sub hl [2, 3, 4, 5, 1, 0] rfl)
    · have h := h.1 c23
      refine lv_iconst (v := (2 : Int32)) hx hb dX11_readsFloor_188 (by decide) ?_
      refine lv_goto (tgt := 193) hx hb dX11_readsFloor_189 (by decide) ?_
      obtain ⟨z25, h⟩ := h
      refine g_ast (wn := (w_X11_readsFloor cy a_this a_read a_tape w_refusals w_s w_image w_told w_met w_best w_kept w_squares w_far w_queue (upd v_read (((95 : Int32) + ((5 : Int32) * x1)) + x5).toNatClampNeg (2 : Int32)) v_isImage v_tape v_taped v_at v_wrongHour v_wrongThing v_soonest v_bestSteps)) ha hw 1 rfl z25 rfl dX11_readsFloor_193 (fun H locs hw => ?_)
      refine lv_iinc (v := x5 + (1 : Int32)) (lv' := [(5, .int (x5 + (1 : Int32))), (4, .int t0), (0, .ref a_this), (1, .int x1), (2, .int x2), (3, .int x3)]) hx hb dX11_readsFloor_194 hl (k := 5) rfl rfl (by decide) rfl (fun ls hl => ?_)
      refine lv_aload_n hx hb dX11_readsFloor_197 rfl (lv_at hl 2 rfl) ?_
      refine lv_dup hx hb dX11_readsFloor_198 rfl ?_
      refine g_get (ci := 11) ha hw 0 8 rfl hi_X11_readsFloor_11 (by decide) (List.mem_of_getElem? (i := 1) rfl) rfl rfl dX11_readsFloor_199 ?_
      refine lv_iconst (v := (1 : Int32)) hx hb dX11_readsFloor_202 (by decide) ?_
      refine lv_iadd hx hb dX11_readsFloor_203 ?_
      refine g_put (ci := 11) (wn := (w_X11_readsFloor cy a_this a_read a_tape w_refusals w_s w_image w_told w_met w_best w_kept w_squares w_far w_queue (upd v_read (((95 : Int32) + ((5 : Int32) * x1)) + x5).toNatClampNeg (2 : Int32)) v_isImage v_tape v_taped (v_at + (1 : Int32)) v_wrongHour v_wrongThing v_soonest v_bestSteps)) ha hw 0 8 rfl hi_X11_readsFloor_11 tyX11_ok nmX11 (by decide) (List.mem_of_getElem? (i := 1) rfl) rfl rfl rfl rfl (Nat.le_of_ble_eq_true rfl) rfl dX11_readsFloor_204 (fun H locs hw => ?_)
      refine lv_goto (tgt := 41) hx hb dX11_readsFloor_207 (by decide) ?_
      exact hE41 _ _ _ _ _ _ _ h hw (lv_sub hl [2, 3, 4, 5, 1, 0] rfl)
  · have h := h.1 c21
    refine lv_iconst (v := (1 : Int32)) hx hb dX11_readsFloor_175 (by decide) ?_
    refine lv_goto (tgt := 193) hx hb dX11_readsFloor_176 (by decide) ?_
    obtain ⟨z26, h⟩ := h
    refine g_ast (wn := (w_X11_readsFloor cy a_this a_read a_tape w_refusals w_s w_image w_told w_met w_best w_kept w_squares w_far w_queue (upd v_read (((95 : Int32) + ((5 : Int32) * x1)) + x5).toNatClampNeg (1 : Int32)) v_isImage v_tape v_taped v_at v_wrongHour v_wrongThing v_soonest v_bestSteps)) ha hw 1 rfl z26 rfl dX11_readsFloor_193 (fun H locs hw => ?_)
    refine lv_iinc (v := x5 + (1 : Int32)) (lv' := [(5, .int (x5 + (1 : Int32))), (4, .int t0), (0, .ref a_this), (1, .int x1), (2, .int x2), (3, .int x3)]) hx hb dX11_readsFloor_194 hl (k := 5) rfl rfl (by decide) rfl (fun ls hl => ?_)
    refine lv_aload_n hx hb dX11_readsFloor_197 rfl (lv_at hl 2 rfl) ?_
    refine lv_dup hx hb dX11_readsFloor_198 rfl ?_
    refine g_get (ci := 11) ha hw 0 8 rfl hi_X11_readsFloor_11 (by decide) (List.mem_of_getElem? (i := 1) rfl) rfl rfl dX11_readsFloor_199 ?_
    refine lv_iconst (v := (1 : Int32)) hx hb dX11_readsFloor_202 (by decide) ?_
    refine lv_iadd hx hb dX11_readsFloor_203 ?_
    refine g_put (ci := 11) (wn := (w_X11_readsFloor cy a_this a_read a_tape w_refusals w_s w_image w_told w_met w_best w_kept w_squares w_far w_queue (upd v_read (((95 : Int32) + ((5 : Int32) * x1)) + x5).toNatClampNeg (1 : Int32)) v_isImage v_tape v_taped (v_at + (1 : Int32)) v_wrongHour v_wrongThing v_soonest v_bestSteps)) ha hw 0 8 rfl hi_X11_readsFloor_11 tyX11_ok nmX11 (by decide) (List.mem_of_getElem? (i := 1) rfl) rfl rfl rfl rfl (Nat.le_of_ble_eq_true rfl) rfl dX11_readsFloor_204 (fun H locs hw => ?_)
    refine lv_goto (tgt := 41) hx hb dX11_readsFloor_207 (by decide) ?_
    exact hE41 _ _ _ _ _ _ _ h hw (lv_sub hl [2, 3, 4, 5, 1, 0] rfl)
def wp_X11_readsFloor_130 (x1 : Int32) (v_tape : IA) (v_taped : Int32) (E41 : Int32 → Int32 → Int32 → IA → Int32 → Prop) (K : Int32 → IA → Int32 → Prop) (x4 : Int32) (x5 : Int32) (v_read : IA) (v_at : Int32) (t0 : Int32) (t1 : Int32) : Prop := ∀ x3_18 : Int32, x3_18 = t1 + t0 → (x4 = 0 → wp_X11_sign v_tape v_taped v_at (fun (r31 : Int32) => (r31 = (100 : Int32) → wp_X11_readsFloor_151 x1 v_tape v_taped (fun (x4_37 : Int32) (x5_38 : Int32) (v_read_39 : IA) (v_at_40 : Int32) => E41 x3_18 x4_37 x5_38 v_read_39 v_at_40) K x5 v_read v_at (1 : Int32)) ∧ (¬ (r31 = (100 : Int32)) → wp_X11_readsFloor_151 x1 v_tape v_taped (fun (x4_33 : Int32) (x5_34 : Int32) (v_read_35 : IA) (v_at_36 : Int32) => E41 x3_18 x4_33 x5_34 v_read_35 v_at_36) K x5 v_read v_at (0 : Int32)))) ∧ (¬ (x4 = 0) → wp_X11_readsFloor_151 x1 v_tape v_taped (fun (x4_27 : Int32) (x5_28 : Int32) (v_read_29 : IA) (v_at_30 : Int32) => E41 x3_18 x4_27 x5_28 v_read_29 v_at_30) K x5 v_read v_at (1 : Int32))
set_option maxHeartbeats 4000000 in
set_option maxRecDepth 100000 in
theorem pl_X11_readsFloor_130 {p : Program} {l : Launch} {e : Env} {s : State} {m : MethodId} {args : Array Value} {below : List Frame} {meth : Method} {c : Code} {A : Nat → Prop} {Q : State → Prop} {D : va_G} {cy : ClassId} {a_this a_read a_tape : Nat} {w_refusals w_s w_image w_told w_met w_best w_kept w_squares w_far w_queue : Value} {v_isImage : Int32} {v_tape : IA} {v_taped : Int32} {v_wrongHour : Int32} {v_wrongThing : Int32} {v_soonest : Int32} {v_bestSteps : Int32} {x1 : Int32} {x2 : Int32} {K : Int32 → IA → Int32 → Prop} {E41 : Int32 → Int32 → Int32 → IA → Int32 → Prop} (ha : am p s m args c cX11_readsFloor 6 RX11 wsX11_readsFloor D cy A) (hr : rtI p l e { frames := 3, cells := 0, slots := 0, locals := 233 } s m args below meth c 0 0 Q cX11_readsFloor D A (fun (u : IA × Int32) => (w_X11_readsFloor cy a_this a_read a_tape w_refusals w_s w_image w_told w_met w_best w_kept w_squares w_far w_queue u.1 v_isImage v_tape v_taped u.2 v_wrongHour v_wrongThing v_soonest v_bestSteps)) (fun (r : Int32) (u : IA × Int32) => nz r ∧ K r u.1 u.2)) (hE41 : ∀ (x3' : Int32) (x4' : Int32) (x5' : Int32) (v_read' : IA) (v_at' : Int32) (H : Heap) (locs : List Loc) (ls : Array Slot), E41 x3' x4' x5' v_read' v_at' → wd D A s.heap (w_X11_readsFloor cy a_this a_read a_tape w_refusals w_s w_image w_told w_met w_best w_kept w_squares w_far w_queue v_read' v_isImage v_tape v_taped v_at' v_wrongHour v_wrongThing v_soonest v_bestSteps) H locs → lv_has ls 6 [(0, .ref a_this), (1, .int x1), (2, .int x2), (3, .int x3'), (4, .int x4'), (5, .int x5')] → W p l e { frames := 3, cells := 0, slots := 0, locals := 233 } s m args below meth c H locs 0 0 Q (F0 m 41 ls [])) {x4 : Int32} {x5 : Int32} {v_read : IA} {v_at : Int32} {t0 : Int32} {t1 : Int32} {H : Heap} {locs : List Loc} {ls : Array Slot} : wp_X11_readsFloor_130 x1 v_tape v_taped E41 K x4 x5 v_read v_at t0 t1 → wd D A s.heap (w_X11_readsFloor cy a_this a_read a_tape w_refusals w_s w_image w_told w_met w_best w_kept w_squares w_far w_queue v_read v_isImage v_tape v_taped v_at v_wrongHour v_wrongThing v_soonest v_bestSteps) H locs → lv_has ls 6 [(0, .ref a_this), (1, .int x1), (2, .int x2), (4, .int x4), (5, .int x5)] → W p l e { frames := 3, cells := 0, slots := 0, locals := 233 } s m args below meth c H locs 0 0 Q (F0 m 130 ls [.int t0, .int t1]) := by
  have hx := ha.1
  have hb := ha.2.1
  intro h hw hl
  have h : ∀ x3_18 : Int32, x3_18 = t1 + t0 → (x4 = 0 → wp_X11_sign v_tape v_taped v_at (fun (r31 : Int32) => (r31 = (100 : Int32) → wp_X11_readsFloor_151 x1 v_tape v_taped (fun (x4_37 : Int32) (x5_38 : Int32) (v_read_39 : IA) (v_at_40 : Int32) => E41 x3_18 x4_37 x5_38 v_read_39 v_at_40) K x5 v_read v_at (1 : Int32)) ∧ (¬ (r31 = (100 : Int32)) → wp_X11_readsFloor_151 x1 v_tape v_taped (fun (x4_33 : Int32) (x5_34 : Int32) (v_read_35 : IA) (v_at_36 : Int32) => E41 x3_18 x4_33 x5_34 v_read_35 v_at_36) K x5 v_read v_at (0 : Int32)))) ∧ (¬ (x4 = 0) → wp_X11_readsFloor_151 x1 v_tape v_taped (fun (x4_27 : Int32) (x5_28 : Int32) (v_read_29 : IA) (v_at_30 : Int32) => E41 x3_18 x4_27 x5_28 v_read_29 v_at_30) K x5 v_read v_at (1 : Int32)) := h
  refine lv_iadd hx hb dX11_readsFloor_130 ?_
  refine lv_topi (fun x3_18 ex3_18 => ?_)
  have h := h x3_18 ex3_18
  refine lv_istore_n (lv' := [(3, .int x3_18), (0, .ref a_this), (1, .int x1), (2, .int x2), (4, .int x4), (5, .int x5)]) hx hb dX11_readsFloor_131 rfl hl (by decide) rfl (fun ls hl => ?_)
  refine lv_iload hx hb dX11_readsFloor_132 (lv_at hl 4 rfl) ?_
  refine lv_if_ne (tgt := 146) hx hb dX11_readsFloor_134 (by decide) (fun c19 => ?_) (fun c19 => ?_)
  · have h := h.2 c19
    refine lv_iconst (v := (1 : Int32)) hx hb dX11_readsFloor_146 (by decide) ?_
    refine lv_goto (tgt := 151) hx hb dX11_readsFloor_147 (by decide) ?_
    refine pl_X11_readsFloor_151 ha hr ?_ h hw (lv_sub hl [1, 2, 3, 0, 5] rfl)
    · intro x4_27 x5_28 v_read_29 v_at_30 H locs ls h hw hl
      try dsimp only at h
      exact hE41 _ _ _ _ _ _ _ _ h hw (lv_sub hl [0, 1, 2, 3, 4, 5] rfl)
  · have h := h.1 c19
    refine lv_aload_n hx hb dX11_readsFloor_137 rfl (lv_at hl 1 rfl) ?_
    refine g_cvi (rm := { frames := 1, cells := 0, slots := 0, locals := 64 }) (wn := (fun (u : Unit) => (w_X11_readsFloor cy a_this a_read a_tape w_refusals w_s w_image w_told w_met w_best w_kept w_squares w_far w_queue v_read v_isImage v_tape v_taped v_at v_wrongHour v_wrongThing v_soonest v_bestSteps))) (As := []) ha hw hl.1 (c_X11_sign (cy := cy)) (cwV 0 ha.2.2.2.2.1 gX11_readsFloor_X11_sign rfl rfl rfl hq_X11_sign ⟨Nat.le_of_ble_eq_true rfl, Nat.le_of_ble_eq_true rfl⟩) [0, 2] [1] [1, 0, 2] rfl rfl rfl rfl (by decide) rfl (fun _ => rfl) rfl rfl h rfl rfl (Nat.le_of_ble_eq_true rfl) dX11_readsFloor_138 ⟨Nat.le_refl _, Nat.le_refl _⟩ (fun r31 u H locs h hw => ?_)
    have hw : wd D A s.heap (w_X11_readsFloor cy a_this a_read a_tape w_refusals w_s w_image w_told w_met w_best w_kept w_squares w_far w_queue v_read v_isImage v_tape v_taped v_at v_wrongHour v_wrongThing v_soonest v_bestSteps) H locs := hw
    try dsimp only at h
    refine lv_bipush (v := (100 : Int32)) hx hb dX11_readsFloor_141 (by decide) ?_
    refine lv_icmp_ne (tgt := 150) hx hb dX11_readsFloor_143 (by decide) (fun c32 => ?_) (fun c32 => ?_)
    · have h := h.2 c32
      refine lv_iconst (v := (0 : Int32)) hx hb dX11_readsFloor_150 (by decide) ?_
      refine pl_X11_readsFloor_151 ha hr ?_ h hw (lv_sub hl [1, 2, 3, 0, 5] rfl)
      · intro x4_33 x5_34 v_read_35 v_at_36 H locs ls h hw hl
        try dsimp only at h
        exact hE41 _ _ _ _ _ _ _ _ h hw (lv_sub hl [0, 1, 2, 3, 4, 5] rfl)
    · have h := h.1 c32
      refine lv_iconst (v := (1 : Int32)) hx hb dX11_readsFloor_146 (by decide) ?_
      refine lv_goto (tgt := 151) hx hb dX11_readsFloor_147 (by decide) ?_
      refine pl_X11_readsFloor_151 ha hr ?_ h hw (lv_sub hl [1, 2, 3, 0, 5] rfl)
      · intro x4_37 x5_38 v_read_39 v_at_40 H locs ls h hw hl
        try dsimp only at h
        exact hE41 _ _ _ _ _ _ _ _ h hw (lv_sub hl [0, 1, 2, 3, 4, 5] rfl)
def wp_X11_readsFloor_115 (x1 : Int32) (v_tape : IA) (v_taped : Int32) (E41 : Int32 → Int32 → Int32 → IA → Int32 → Prop) (K : Int32 → IA → Int32 → Prop) (x3 : Int32) (x4 : Int32) (x5 : Int32) (v_read : IA) (v_at : Int32) : Prop := wp_X11_sign v_tape v_taped v_at (fun (r16 : Int32) => (r16 = (35 : Int32) → wp_X11_readsFloor_130 x1 v_tape v_taped (fun (x3_41 : Int32) (x4_42 : Int32) (x5_43 : Int32) (v_read_44 : IA) (v_at_45 : Int32) => E41 x3_41 x4_42 x5_43 v_read_44 v_at_45) K x4 x5 v_read v_at (0 : Int32) x3) ∧ (¬ (r16 = (35 : Int32)) → wp_X11_readsFloor_130 x1 v_tape v_taped (fun (x3_46 : Int32) (x4_47 : Int32) (x5_48 : Int32) (v_read_49 : IA) (v_at_50 : Int32) => E41 x3_46 x4_47 x5_48 v_read_49 v_at_50) K x4 x5 v_read v_at (1 : Int32) x3))
set_option maxHeartbeats 4000000 in
set_option maxRecDepth 100000 in
theorem pl_X11_readsFloor_115 {p : Program} {l : Launch} {e : Env} {s : State} {m : MethodId} {args : Array Value} {below : List Frame} {meth : Method} {c : Code} {A : Nat → Prop} {Q : State → Prop} {D : va_G} {cy : ClassId} {a_this a_read a_tape : Nat} {w_refusals w_s w_image w_told w_met w_best w_kept w_squares w_far w_queue : Value} {v_isImage : Int32} {v_tape : IA} {v_taped : Int32} {v_wrongHour : Int32} {v_wrongThing : Int32} {v_soonest : Int32} {v_bestSteps : Int32} {x1 : Int32} {x2 : Int32} {K : Int32 → IA → Int32 → Prop} {E41 : Int32 → Int32 → Int32 → IA → Int32 → Prop} (ha : am p s m args c cX11_readsFloor 6 RX11 wsX11_readsFloor D cy A) (hr : rtI p l e { frames := 3, cells := 0, slots := 0, locals := 233 } s m args below meth c 0 0 Q cX11_readsFloor D A (fun (u : IA × Int32) => (w_X11_readsFloor cy a_this a_read a_tape w_refusals w_s w_image w_told w_met w_best w_kept w_squares w_far w_queue u.1 v_isImage v_tape v_taped u.2 v_wrongHour v_wrongThing v_soonest v_bestSteps)) (fun (r : Int32) (u : IA × Int32) => nz r ∧ K r u.1 u.2)) (hE41 : ∀ (x3' : Int32) (x4' : Int32) (x5' : Int32) (v_read' : IA) (v_at' : Int32) (H : Heap) (locs : List Loc) (ls : Array Slot), E41 x3' x4' x5' v_read' v_at' → wd D A s.heap (w_X11_readsFloor cy a_this a_read a_tape w_refusals w_s w_image w_told w_met w_best w_kept w_squares w_far w_queue v_read' v_isImage v_tape v_taped v_at' v_wrongHour v_wrongThing v_soonest v_bestSteps) H locs → lv_has ls 6 [(0, .ref a_this), (1, .int x1), (2, .int x2), (3, .int x3'), (4, .int x4'), (5, .int x5')] → W p l e { frames := 3, cells := 0, slots := 0, locals := 233 } s m args below meth c H locs 0 0 Q (F0 m 41 ls [])) {x3 : Int32} {x4 : Int32} {x5 : Int32} {v_read : IA} {v_at : Int32} {H : Heap} {locs : List Loc} {ls : Array Slot} : wp_X11_readsFloor_115 x1 v_tape v_taped E41 K x3 x4 x5 v_read v_at → wd D A s.heap (w_X11_readsFloor cy a_this a_read a_tape w_refusals w_s w_image w_told w_met w_best w_kept w_squares w_far w_queue v_read v_isImage v_tape v_taped v_at v_wrongHour v_wrongThing v_soonest v_bestSteps) H locs → lv_has ls 6 [(0, .ref a_this), (1, .int x1), (2, .int x2), (3, .int x3), (4, .int x4), (5, .int x5)] → W p l e { frames := 3, cells := 0, slots := 0, locals := 233 } s m args below meth c H locs 0 0 Q (F0 m 115 ls []) := by
  have hx := ha.1
  have hb := ha.2.1
  intro h hw hl
  have h : wp_X11_sign v_tape v_taped v_at (fun (r16 : Int32) => (r16 = (35 : Int32) → wp_X11_readsFloor_130 x1 v_tape v_taped (fun (x3_41 : Int32) (x4_42 : Int32) (x5_43 : Int32) (v_read_44 : IA) (v_at_45 : Int32) => E41 x3_41 x4_42 x5_43 v_read_44 v_at_45) K x4 x5 v_read v_at (0 : Int32) x3) ∧ (¬ (r16 = (35 : Int32)) → wp_X11_readsFloor_130 x1 v_tape v_taped (fun (x3_46 : Int32) (x4_47 : Int32) (x5_48 : Int32) (v_read_49 : IA) (v_at_50 : Int32) => E41 x3_46 x4_47 x5_48 v_read_49 v_at_50) K x4 x5 v_read v_at (1 : Int32) x3)) := h
  refine lv_iload_n hx hb dX11_readsFloor_115 rfl (lv_at hl 3 rfl) ?_
  refine lv_aload_n hx hb dX11_readsFloor_116 rfl (lv_at hl 0 rfl) ?_
  refine g_cvi (rm := { frames := 1, cells := 0, slots := 0, locals := 64 }) (wn := (fun (u : Unit) => (w_X11_readsFloor cy a_this a_read a_tape w_refusals w_s w_image w_told w_met w_best w_kept w_squares w_far w_queue v_read v_isImage v_tape v_taped v_at v_wrongHour v_wrongThing v_soonest v_bestSteps))) (As := []) ha hw hl.1 (c_X11_sign (cy := cy)) (cwV 0 ha.2.2.2.2.1 gX11_readsFloor_X11_sign rfl rfl rfl hq_X11_sign ⟨Nat.le_of_ble_eq_true rfl, Nat.le_of_ble_eq_true rfl⟩) [0, 2] [1] [1, 0, 2] rfl rfl rfl rfl (by decide) rfl (fun _ => rfl) rfl rfl h rfl rfl (Nat.le_of_ble_eq_true rfl) dX11_readsFloor_117 ⟨Nat.le_refl _, Nat.le_refl _⟩ (fun r16 u H locs h hw => ?_)
  have hw : wd D A s.heap (w_X11_readsFloor cy a_this a_read a_tape w_refusals w_s w_image w_told w_met w_best w_kept w_squares w_far w_queue v_read v_isImage v_tape v_taped v_at v_wrongHour v_wrongThing v_soonest v_bestSteps) H locs := hw
  try dsimp only at h
  refine lv_bipush (v := (35 : Int32)) hx hb dX11_readsFloor_120 (by decide) ?_
  refine lv_icmp_eq (tgt := 129) hx hb dX11_readsFloor_122 (by decide) (fun c17 => ?_) (fun c17 => ?_)
  · have h := h.1 c17
    refine lv_iconst (v := (0 : Int32)) hx hb dX11_readsFloor_129 (by decide) ?_
    refine pl_X11_readsFloor_130 ha hr ?_ h hw (lv_sub hl [0, 1, 2, 4, 5] rfl)
    · intro x3_41 x4_42 x5_43 v_read_44 v_at_45 H locs ls h hw hl
      try dsimp only at h
      exact hE41 _ _ _ _ _ _ _ _ h hw (lv_sub hl [0, 1, 2, 3, 4, 5] rfl)
  · have h := h.2 c17
    refine lv_iconst (v := (1 : Int32)) hx hb dX11_readsFloor_125 (by decide) ?_
    refine lv_goto (tgt := 130) hx hb dX11_readsFloor_126 (by decide) ?_
    refine pl_X11_readsFloor_130 ha hr ?_ h hw (lv_sub hl [0, 1, 2, 4, 5] rfl)
    · intro x3_46 x4_47 x5_48 v_read_49 v_at_50 H locs ls h hw hl
      try dsimp only at h
      exact hE41 _ _ _ _ _ _ _ _ h hw (lv_sub hl [0, 1, 2, 3, 4, 5] rfl)
def wp_X11_readsFloor_98 (x1 : Int32) (v_tape : IA) (v_taped : Int32) (E41 : Int32 → Int32 → Int32 → IA → Int32 → Prop) (K : Int32 → IA → Int32 → Prop) (x3 : Int32) (x4 : Int32) (x5 : Int32) (v_read : IA) (v_at : Int32) : Prop := wp_X11_sign v_tape v_taped v_at (fun (r14 : Int32) => (r14 = (35 : Int32) → wp_X11_readsFloor_115 x1 v_tape v_taped (fun (x3_51 : Int32) (x4_52 : Int32) (x5_53 : Int32) (v_read_54 : IA) (v_at_55 : Int32) => E41 x3_51 x4_52 x5_53 v_read_54 v_at_55) K x3 x4 x5 v_read v_at) ∧ (¬ (r14 = (35 : Int32)) → (x3 = (10 : Int32) → K (0 : Int32) v_read v_at) ∧ (¬ (x3 = (10 : Int32)) → wp_X11_readsFloor_115 x1 v_tape v_taped (fun (x3_57 : Int32) (x4_58 : Int32) (x5_59 : Int32) (v_read_60 : IA) (v_at_61 : Int32) => E41 x3_57 x4_58 x5_59 v_read_60 v_at_61) K x3 x4 x5 v_read v_at)))
set_option maxHeartbeats 4000000 in
set_option maxRecDepth 100000 in
theorem pl_X11_readsFloor_98 {p : Program} {l : Launch} {e : Env} {s : State} {m : MethodId} {args : Array Value} {below : List Frame} {meth : Method} {c : Code} {A : Nat → Prop} {Q : State → Prop} {D : va_G} {cy : ClassId} {a_this a_read a_tape : Nat} {w_refusals w_s w_image w_told w_met w_best w_kept w_squares w_far w_queue : Value} {v_isImage : Int32} {v_tape : IA} {v_taped : Int32} {v_wrongHour : Int32} {v_wrongThing : Int32} {v_soonest : Int32} {v_bestSteps : Int32} {x1 : Int32} {x2 : Int32} {K : Int32 → IA → Int32 → Prop} {E41 : Int32 → Int32 → Int32 → IA → Int32 → Prop} (ha : am p s m args c cX11_readsFloor 6 RX11 wsX11_readsFloor D cy A) (hr : rtI p l e { frames := 3, cells := 0, slots := 0, locals := 233 } s m args below meth c 0 0 Q cX11_readsFloor D A (fun (u : IA × Int32) => (w_X11_readsFloor cy a_this a_read a_tape w_refusals w_s w_image w_told w_met w_best w_kept w_squares w_far w_queue u.1 v_isImage v_tape v_taped u.2 v_wrongHour v_wrongThing v_soonest v_bestSteps)) (fun (r : Int32) (u : IA × Int32) => nz r ∧ K r u.1 u.2)) (hE41 : ∀ (x3' : Int32) (x4' : Int32) (x5' : Int32) (v_read' : IA) (v_at' : Int32) (H : Heap) (locs : List Loc) (ls : Array Slot), E41 x3' x4' x5' v_read' v_at' → wd D A s.heap (w_X11_readsFloor cy a_this a_read a_tape w_refusals w_s w_image w_told w_met w_best w_kept w_squares w_far w_queue v_read' v_isImage v_tape v_taped v_at' v_wrongHour v_wrongThing v_soonest v_bestSteps) H locs → lv_has ls 6 [(0, .ref a_this), (1, .int x1), (2, .int x2), (3, .int x3'), (4, .int x4'), (5, .int x5')] → W p l e { frames := 3, cells := 0, slots := 0, locals := 233 } s m args below meth c H locs 0 0 Q (F0 m 41 ls [])) {x3 : Int32} {x4 : Int32} {x5 : Int32} {v_read : IA} {v_at : Int32} {H : Heap} {locs : List Loc} {ls : Array Slot} : wp_X11_readsFloor_98 x1 v_tape v_taped E41 K x3 x4 x5 v_read v_at → wd D A s.heap (w_X11_readsFloor cy a_this a_read a_tape w_refusals w_s w_image w_told w_met w_best w_kept w_squares w_far w_queue v_read v_isImage v_tape v_taped v_at v_wrongHour v_wrongThing v_soonest v_bestSteps) H locs → lv_has ls 6 [(0, .ref a_this), (1, .int x1), (2, .int x2), (3, .int x3), (4, .int x4), (5, .int x5)] → W p l e { frames := 3, cells := 0, slots := 0, locals := 233 } s m args below meth c H locs 0 0 Q (F0 m 98 ls []) := by
  have hx := ha.1
  have hb := ha.2.1
  intro h hw hl
  have h : wp_X11_sign v_tape v_taped v_at (fun (r14 : Int32) => (r14 = (35 : Int32) → wp_X11_readsFloor_115 x1 v_tape v_taped (fun (x3_51 : Int32) (x4_52 : Int32) (x5_53 : Int32) (v_read_54 : IA) (v_at_55 : Int32) => E41 x3_51 x4_52 x5_53 v_read_54 v_at_55) K x3 x4 x5 v_read v_at) ∧ (¬ (r14 = (35 : Int32)) → (x3 = (10 : Int32) → K (0 : Int32) v_read v_at) ∧ (¬ (x3 = (10 : Int32)) → wp_X11_readsFloor_115 x1 v_tape v_taped (fun (x3_57 : Int32) (x4_58 : Int32) (x5_59 : Int32) (v_read_60 : IA) (v_at_61 : Int32) => E41 x3_57 x4_58 x5_59 v_read_60 v_at_61) K x3 x4 x5 v_read v_at))) := h
  refine lv_aload_n hx hb dX11_readsFloor_98 rfl (lv_at hl 0 rfl) ?_
  refine g_cvi (rm := { frames := 1, cells := 0, slots := 0, locals := 64 }) (wn := (fun (u : Unit) => (w_X11_readsFloor cy a_this a_read a_tape w_refusals w_s w_image w_told w_met w_best w_kept w_squares w_far w_queue v_read v_isImage v_tape v_taped v_at v_wrongHour v_wrongThing v_soonest v_bestSteps))) (As := []) ha hw hl.1 (c_X11_sign (cy := cy)) (cwV 0 ha.2.2.2.2.1 gX11_readsFloor_X11_sign rfl rfl rfl hq_X11_sign ⟨Nat.le_of_ble_eq_true rfl, Nat.le_of_ble_eq_true rfl⟩) [0, 2] [1] [1, 0, 2] rfl rfl rfl rfl (by decide) rfl (fun _ => rfl) rfl rfl h rfl rfl (Nat.le_of_ble_eq_true rfl) dX11_readsFloor_99 ⟨Nat.le_refl _, Nat.le_refl _⟩ (fun r14 u H locs h hw => ?_)
  have hw : wd D A s.heap (w_X11_readsFloor cy a_this a_read a_tape w_refusals w_s w_image w_told w_met w_best w_kept w_squares w_far w_queue v_read v_isImage v_tape v_taped v_at v_wrongHour v_wrongThing v_soonest v_bestSteps) H locs := hw
  try dsimp only at h
  refine lv_bipush (v := (35 : Int32)) hx hb dX11_readsFloor_102 (by decide) ?_
  refine lv_icmp_eq (tgt := 115) hx hb dX11_readsFloor_104 (by decide) (fun c15 => ?_) (fun c15 => ?_)
  · have h := h.1 c15
    refine pl_X11_readsFloor_115 ha hr ?_ h hw (lv_sub hl [0, 1, 2, 3, 4, 5] rfl)
    · intro x3_51 x4_52 x5_53 v_read_54 v_at_55 H locs ls h hw hl
      try dsimp only at h
      exact hE41 _ _ _ _ _ _ _ _ h hw (lv_sub hl [0, 1, 2, 3, 4, 5] rfl)
  · have h := h.2 c15
    refine lv_iload_n hx hb dX11_readsFloor_107 rfl (lv_at hl 3 rfl) ?_
    refine lv_bipush (v := (10 : Int32)) hx hb dX11_readsFloor_108 (by decide) ?_
    refine lv_icmp_ne (tgt := 115) hx hb dX11_readsFloor_110 (by decide) (fun c56 => ?_) (fun c56 => ?_)
    · have h := h.2 c56
      refine pl_X11_readsFloor_115 ha hr ?_ h hw (lv_sub hl [0, 1, 2, 3, 4, 5] rfl)
      · intro x3_57 x4_58 x5_59 v_read_60 v_at_61 H locs ls h hw hl
        try dsimp only at h
        exact hE41 _ _ _ _ _ _ _ _ h hw (lv_sub hl [0, 1, 2, 3, 4, 5] rfl)
    · have h := h.1 c56
      refine lv_iconst (v := (0 : Int32)) hx hb dX11_readsFloor_113 (by decide) ?_
      exact hr _ _ (v_read, v_at) _ _ _ dX11_readsFloor_114 ⟨nz0, h⟩ hw
def wp_X11_readsFloor_84 (x1 : Int32) (v_tape : IA) (v_taped : Int32) (E41 : Int32 → Int32 → Int32 → IA → Int32 → Prop) (K : Int32 → IA → Int32 → Prop) (x3 : Int32) (x4 : Int32) (x5 : Int32) (v_read : IA) (v_at : Int32) : Prop := wp_X11_sign v_tape v_taped v_at (fun (r12 : Int32) => (r12 = (100 : Int32) → (x4 = 0 → wp_X11_readsFloor_98 x1 v_tape v_taped (fun (x3_68 : Int32) (x4_69 : Int32) (x5_70 : Int32) (v_read_71 : IA) (v_at_72 : Int32) => E41 x3_68 x4_69 x5_70 v_read_71 v_at_72) K x3 x4 x5 v_read v_at) ∧ (¬ (x4 = 0) → K (0 : Int32) v_read v_at)) ∧ (¬ (r12 = (100 : Int32)) → wp_X11_readsFloor_98 x1 v_tape v_taped (fun (x3_62 : Int32) (x4_63 : Int32) (x5_64 : Int32) (v_read_65 : IA) (v_at_66 : Int32) => E41 x3_62 x4_63 x5_64 v_read_65 v_at_66) K x3 x4 x5 v_read v_at))
set_option maxHeartbeats 4000000 in
set_option maxRecDepth 100000 in
theorem pl_X11_readsFloor_84 {p : Program} {l : Launch} {e : Env} {s : State} {m : MethodId} {args : Array Value} {below : List Frame} {meth : Method} {c : Code} {A : Nat → Prop} {Q : State → Prop} {D : va_G} {cy : ClassId} {a_this a_read a_tape : Nat} {w_refusals w_s w_image w_told w_met w_best w_kept w_squares w_far w_queue : Value} {v_isImage : Int32} {v_tape : IA} {v_taped : Int32} {v_wrongHour : Int32} {v_wrongThing : Int32} {v_soonest : Int32} {v_bestSteps : Int32} {x1 : Int32} {x2 : Int32} {K : Int32 → IA → Int32 → Prop} {E41 : Int32 → Int32 → Int32 → IA → Int32 → Prop} (ha : am p s m args c cX11_readsFloor 6 RX11 wsX11_readsFloor D cy A) (hr : rtI p l e { frames := 3, cells := 0, slots := 0, locals := 233 } s m args below meth c 0 0 Q cX11_readsFloor D A (fun (u : IA × Int32) => (w_X11_readsFloor cy a_this a_read a_tape w_refusals w_s w_image w_told w_met w_best w_kept w_squares w_far w_queue u.1 v_isImage v_tape v_taped u.2 v_wrongHour v_wrongThing v_soonest v_bestSteps)) (fun (r : Int32) (u : IA × Int32) => nz r ∧ K r u.1 u.2)) (hE41 : ∀ (x3' : Int32) (x4' : Int32) (x5' : Int32) (v_read' : IA) (v_at' : Int32) (H : Heap) (locs : List Loc) (ls : Array Slot), E41 x3' x4' x5' v_read' v_at' → wd D A s.heap (w_X11_readsFloor cy a_this a_read a_tape w_refusals w_s w_image w_told w_met w_best w_kept w_squares w_far w_queue v_read' v_isImage v_tape v_taped v_at' v_wrongHour v_wrongThing v_soonest v_bestSteps) H locs → lv_has ls 6 [(0, .ref a_this), (1, .int x1), (2, .int x2), (3, .int x3'), (4, .int x4'), (5, .int x5')] → W p l e { frames := 3, cells := 0, slots := 0, locals := 233 } s m args below meth c H locs 0 0 Q (F0 m 41 ls [])) {x3 : Int32} {x4 : Int32} {x5 : Int32} {v_read : IA} {v_at : Int32} {H : Heap} {locs : List Loc} {ls : Array Slot} : wp_X11_readsFloor_84 x1 v_tape v_taped E41 K x3 x4 x5 v_read v_at → wd D A s.heap (w_X11_readsFloor cy a_this a_read a_tape w_refusals w_s w_image w_told w_met w_best w_kept w_squares w_far w_queue v_read v_isImage v_tape v_taped v_at v_wrongHour v_wrongThing v_soonest v_bestSteps) H locs → lv_has ls 6 [(0, .ref a_this), (1, .int x1), (2, .int x2), (3, .int x3), (4, .int x4), (5, .int x5)] → W p l e { frames := 3, cells := 0, slots := 0, locals := 233 } s m args below meth c H locs 0 0 Q (F0 m 84 ls []) := by
  have hx := ha.1
  have hb := ha.2.1
  intro h hw hl
  have h : wp_X11_sign v_tape v_taped v_at (fun (r12 : Int32) => (r12 = (100 : Int32) → (x4 = 0 → wp_X11_readsFloor_98 x1 v_tape v_taped (fun (x3_68 : Int32) (x4_69 : Int32) (x5_70 : Int32) (v_read_71 : IA) (v_at_72 : Int32) => E41 x3_68 x4_69 x5_70 v_read_71 v_at_72) K x3 x4 x5 v_read v_at) ∧ (¬ (x4 = 0) → K (0 : Int32) v_read v_at)) ∧ (¬ (r12 = (100 : Int32)) → wp_X11_readsFloor_98 x1 v_tape v_taped (fun (x3_62 : Int32) (x4_63 : Int32) (x5_64 : Int32) (v_read_65 : IA) (v_at_66 : Int32) => E41 x3_62 x4_63 x5_64 v_read_65 v_at_66) K x3 x4 x5 v_read v_at)) := h
  refine lv_aload_n hx hb dX11_readsFloor_84 rfl (lv_at hl 0 rfl) ?_
  refine g_cvi (rm := { frames := 1, cells := 0, slots := 0, locals := 64 }) (wn := (fun (u : Unit) => (w_X11_readsFloor cy a_this a_read a_tape w_refusals w_s w_image w_told w_met w_best w_kept w_squares w_far w_queue v_read v_isImage v_tape v_taped v_at v_wrongHour v_wrongThing v_soonest v_bestSteps))) (As := []) ha hw hl.1 (c_X11_sign (cy := cy)) (cwV 0 ha.2.2.2.2.1 gX11_readsFloor_X11_sign rfl rfl rfl hq_X11_sign ⟨Nat.le_of_ble_eq_true rfl, Nat.le_of_ble_eq_true rfl⟩) [0, 2] [1] [1, 0, 2] rfl rfl rfl rfl (by decide) rfl (fun _ => rfl) rfl rfl h rfl rfl (Nat.le_of_ble_eq_true rfl) dX11_readsFloor_85 ⟨Nat.le_refl _, Nat.le_refl _⟩ (fun r12 u H locs h hw => ?_)
  have hw : wd D A s.heap (w_X11_readsFloor cy a_this a_read a_tape w_refusals w_s w_image w_told w_met w_best w_kept w_squares w_far w_queue v_read v_isImage v_tape v_taped v_at v_wrongHour v_wrongThing v_soonest v_bestSteps) H locs := hw
  try dsimp only at h
  refine lv_bipush (v := (100 : Int32)) hx hb dX11_readsFloor_88 (by decide) ?_
  refine lv_icmp_ne (tgt := 98) hx hb dX11_readsFloor_90 (by decide) (fun c13 => ?_) (fun c13 => ?_)
  · have h := h.2 c13
    refine pl_X11_readsFloor_98 ha hr ?_ h hw (lv_sub hl [0, 1, 2, 3, 4, 5] rfl)
    · intro x3_62 x4_63 x5_64 v_read_65 v_at_66 H locs ls h hw hl
      try dsimp only at h
      exact hE41 _ _ _ _ _ _ _ _ h hw (lv_sub hl [0, 1, 2, 3, 4, 5] rfl)
  · have h := h.1 c13
    refine lv_iload hx hb dX11_readsFloor_93 (lv_at hl 4 rfl) ?_
    refine lv_if_ne (tgt := 113) hx hb dX11_readsFloor_95 (by decide) (fun c67 => ?_) (fun c67 => ?_)
    · have h := h.2 c67
      refine lv_iconst (v := (0 : Int32)) hx hb dX11_readsFloor_113 (by decide) ?_
      exact hr _ _ (v_read, v_at) _ _ _ dX11_readsFloor_114 ⟨nz0, h⟩ hw
    · have h := h.1 c67
      refine pl_X11_readsFloor_98 ha hr ?_ h hw (lv_sub hl [0, 1, 2, 3, 4, 5] rfl)
      · intro x3_68 x4_69 x5_70 v_read_71 v_at_72 H locs ls h hw hl
        try dsimp only at h
        exact hE41 _ _ _ _ _ _ _ _ h hw (lv_sub hl [0, 1, 2, 3, 4, 5] rfl)
def wp_X11_readsFloor_68 (x1 : Int32) (x2 : Int32) (v_tape : IA) (v_taped : Int32) (E41 : Int32 → Int32 → Int32 → IA → Int32 → Prop) (K : Int32 → IA → Int32 → Prop) (x3 : Int32) (x4 : Int32) (x5 : Int32) (v_read : IA) (v_at : Int32) : Prop := (x5 = (5 : Int32) → K (0 : Int32) v_read v_at) ∧ (¬ (x5 = (5 : Int32)) → (x1 ≤ 0 → wp_X11_readsFloor_84 x1 v_tape v_taped (fun (x3_73 : Int32) (x4_74 : Int32) (x5_75 : Int32) (v_read_76 : IA) (v_at_77 : Int32) => E41 x3_73 x4_74 x5_75 v_read_76 v_at_77) K x3 x4 x5 v_read v_at) ∧ (¬ (x1 ≤ 0) → (x5 = x2 → K (0 : Int32) v_read v_at) ∧ (¬ (x5 = x2) → wp_X11_readsFloor_84 x1 v_tape v_taped (fun (x3_79 : Int32) (x4_80 : Int32) (x5_81 : Int32) (v_read_82 : IA) (v_at_83 : Int32) => E41 x3_79 x4_80 x5_81 v_read_82 v_at_83) K x3 x4 x5 v_read v_at)))
set_option maxHeartbeats 4000000 in
set_option maxRecDepth 100000 in
theorem pl_X11_readsFloor_68 {p : Program} {l : Launch} {e : Env} {s : State} {m : MethodId} {args : Array Value} {below : List Frame} {meth : Method} {c : Code} {A : Nat → Prop} {Q : State → Prop} {D : va_G} {cy : ClassId} {a_this a_read a_tape : Nat} {w_refusals w_s w_image w_told w_met w_best w_kept w_squares w_far w_queue : Value} {v_isImage : Int32} {v_tape : IA} {v_taped : Int32} {v_wrongHour : Int32} {v_wrongThing : Int32} {v_soonest : Int32} {v_bestSteps : Int32} {x1 : Int32} {x2 : Int32} {K : Int32 → IA → Int32 → Prop} {E41 : Int32 → Int32 → Int32 → IA → Int32 → Prop} (ha : am p s m args c cX11_readsFloor 6 RX11 wsX11_readsFloor D cy A) (hr : rtI p l e { frames := 3, cells := 0, slots := 0, locals := 233 } s m args below meth c 0 0 Q cX11_readsFloor D A (fun (u : IA × Int32) => (w_X11_readsFloor cy a_this a_read a_tape w_refusals w_s w_image w_told w_met w_best w_kept w_squares w_far w_queue u.1 v_isImage v_tape v_taped u.2 v_wrongHour v_wrongThing v_soonest v_bestSteps)) (fun (r : Int32) (u : IA × Int32) => nz r ∧ K r u.1 u.2)) (hE41 : ∀ (x3' : Int32) (x4' : Int32) (x5' : Int32) (v_read' : IA) (v_at' : Int32) (H : Heap) (locs : List Loc) (ls : Array Slot), E41 x3' x4' x5' v_read' v_at' → wd D A s.heap (w_X11_readsFloor cy a_this a_read a_tape w_refusals w_s w_image w_told w_met w_best w_kept w_squares w_far w_queue v_read' v_isImage v_tape v_taped v_at' v_wrongHour v_wrongThing v_soonest v_bestSteps) H locs → lv_has ls 6 [(0, .ref a_this), (1, .int x1), (2, .int x2), (3, .int x3'), (4, .int x4'), (5, .int x5')] → W p l e { frames := 3, cells := 0, slots := 0, locals := 233 } s m args below meth c H locs 0 0 Q (F0 m 41 ls [])) {x3 : Int32} {x4 : Int32} {x5 : Int32} {v_read : IA} {v_at : Int32} {H : Heap} {locs : List Loc} {ls : Array Slot} : wp_X11_readsFloor_68 x1 x2 v_tape v_taped E41 K x3 x4 x5 v_read v_at → wd D A s.heap (w_X11_readsFloor cy a_this a_read a_tape w_refusals w_s w_image w_told w_met w_best w_kept w_squares w_far w_queue v_read v_isImage v_tape v_taped v_at v_wrongHour v_wrongThing v_soonest v_bestSteps) H locs → lv_has ls 6 [(0, .ref a_this), (1, .int x1), (2, .int x2), (3, .int x3), (4, .int x4), (5, .int x5)] → W p l e { frames := 3, cells := 0, slots := 0, locals := 233 } s m args below meth c H locs 0 0 Q (F0 m 68 ls []) := by
  have hx := ha.1
  have hb := ha.2.1
  intro h hw hl
  have h : (x5 = (5 : Int32) → K (0 : Int32) v_read v_at) ∧ (¬ (x5 = (5 : Int32)) → (x1 ≤ 0 → wp_X11_readsFloor_84 x1 v_tape v_taped (fun (x3_73 : Int32) (x4_74 : Int32) (x5_75 : Int32) (v_read_76 : IA) (v_at_77 : Int32) => E41 x3_73 x4_74 x5_75 v_read_76 v_at_77) K x3 x4 x5 v_read v_at) ∧ (¬ (x1 ≤ 0) → (x5 = x2 → K (0 : Int32) v_read v_at) ∧ (¬ (x5 = x2) → wp_X11_readsFloor_84 x1 v_tape v_taped (fun (x3_79 : Int32) (x4_80 : Int32) (x5_81 : Int32) (v_read_82 : IA) (v_at_83 : Int32) => E41 x3_79 x4_80 x5_81 v_read_82 v_at_83) K x3 x4 x5 v_read v_at))) := h
  refine lv_iload hx hb dX11_readsFloor_68 (lv_at hl 5 rfl) ?_
  refine lv_iconst (v := (5 : Int32)) hx hb dX11_readsFloor_70 (by decide) ?_
  refine lv_icmp_eq (tgt := 113) hx hb dX11_readsFloor_71 (by decide) (fun c10 => ?_) (fun c10 => ?_)
  · have h := h.1 c10
    refine lv_iconst (v := (0 : Int32)) hx hb dX11_readsFloor_113 (by decide) ?_
    exact hr _ _ (v_read, v_at) _ _ _ dX11_readsFloor_114 ⟨nz0, h⟩ hw
  · have h := h.2 c10
    refine lv_iload_n hx hb dX11_readsFloor_74 rfl (lv_at hl 1 rfl) ?_
    refine lv_if_le (tgt := 84) hx hb dX11_readsFloor_75 (by decide) (fun c11 => ?_) (fun c11 => ?_)
    · have h := h.1 c11
      refine pl_X11_readsFloor_84 ha hr ?_ h hw (lv_sub hl [0, 1, 2, 3, 4, 5] rfl)
      · intro x3_73 x4_74 x5_75 v_read_76 v_at_77 H locs ls h hw hl
        try dsimp only at h
        exact hE41 _ _ _ _ _ _ _ _ h hw (lv_sub hl [0, 1, 2, 3, 4, 5] rfl)
    · have h := h.2 c11
      refine lv_iload hx hb dX11_readsFloor_78 (lv_at hl 5 rfl) ?_
      refine lv_iload_n hx hb dX11_readsFloor_80 rfl (lv_at hl 2 rfl) ?_
      refine lv_icmp_eq (tgt := 113) hx hb dX11_readsFloor_81 (by decide) (fun c78 => ?_) (fun c78 => ?_)
      · have h := h.1 c78
        refine lv_iconst (v := (0 : Int32)) hx hb dX11_readsFloor_113 (by decide) ?_
        exact hr _ _ (v_read, v_at) _ _ _ dX11_readsFloor_114 ⟨nz0, h⟩ hw
      · have h := h.2 c78
        refine pl_X11_readsFloor_84 ha hr ?_ h hw (lv_sub hl [0, 1, 2, 3, 4, 5] rfl)
        · intro x3_79 x4_80 x5_81 v_read_82 v_at_83 H locs ls h hw hl
          try dsimp only at h
          exact hE41 _ _ _ _ _ _ _ _ h hw (lv_sub hl [0, 1, 2, 3, 4, 5] rfl)
def wp_X11_readsFloor_41 (x1 : Int32) (x2 : Int32) (v_tape : IA) (v_taped : Int32) (E210 : Int32 → Int32 → Int32 → IA → Int32 → Prop) (K : Int32 → IA → Int32 → Prop) : Nat → Int32 → Int32 → Int32 → IA → Int32 → Prop
  | 0, _, _, _, _, _ => False
  | n + 1, x3, x4, x5, v_read, v_at => wp_X11_sign v_tape v_taped v_at (fun (r8 : Int32) => (r8 = (46 : Int32) → wp_X11_readsFloor_68 x1 x2 v_tape v_taped (fun (x3_84 : Int32) (x4_85 : Int32) (x5_86 : Int32) (v_read_87 : IA) (v_at_88 : Int32) => wp_X11_readsFloor_41 x1 x2 v_tape v_taped E210 K n x3_84 x4_85 x5_86 v_read_87 v_at_88) K x3 x4 x5 v_read v_at) ∧ (¬ (r8 = (46 : Int32)) → wp_X11_sign v_tape v_taped v_at (fun (r89 : Int32) => (r89 = (35 : Int32) → wp_X11_readsFloor_68 x1 x2 v_tape v_taped (fun (x3_91 : Int32) (x4_92 : Int32) (x5_93 : Int32) (v_read_94 : IA) (v_at_95 : Int32) => wp_X11_readsFloor_41 x1 x2 v_tape v_taped E210 K n x3_91 x4_92 x5_93 v_read_94 v_at_95) K x3 x4 x5 v_read v_at) ∧ (¬ (r89 = (35 : Int32)) → wp_X11_sign v_tape v_taped v_at (fun (r96 : Int32) => (r96 = (100 : Int32) → wp_X11_readsFloor_68 x1 x2 v_tape v_taped (fun (x3_98 : Int32) (x4_99 : Int32) (x5_100 : Int32) (v_read_101 : IA) (v_at_102 : Int32) => wp_X11_readsFloor_41 x1 x2 v_tape v_taped E210 K n x3_98 x4_99 x5_100 v_read_101 v_at_102) K x3 x4 x5 v_read v_at) ∧ (¬ (r96 = (100 : Int32)) → E210 x3 x4 x5 v_read v_at))))))
set_option maxHeartbeats 4000000 in
set_option maxRecDepth 100000 in
theorem pl_X11_readsFloor_41 {p : Program} {l : Launch} {e : Env} {s : State} {m : MethodId} {args : Array Value} {below : List Frame} {meth : Method} {c : Code} {A : Nat → Prop} {Q : State → Prop} {D : va_G} {cy : ClassId} {a_this a_read a_tape : Nat} {w_refusals w_s w_image w_told w_met w_best w_kept w_squares w_far w_queue : Value} {v_isImage : Int32} {v_tape : IA} {v_taped : Int32} {v_wrongHour : Int32} {v_wrongThing : Int32} {v_soonest : Int32} {v_bestSteps : Int32} {x1 : Int32} {x2 : Int32} {K : Int32 → IA → Int32 → Prop} {E210 : Int32 → Int32 → Int32 → IA → Int32 → Prop} (ha : am p s m args c cX11_readsFloor 6 RX11 wsX11_readsFloor D cy A) (hr : rtI p l e { frames := 3, cells := 0, slots := 0, locals := 233 } s m args below meth c 0 0 Q cX11_readsFloor D A (fun (u : IA × Int32) => (w_X11_readsFloor cy a_this a_read a_tape w_refusals w_s w_image w_told w_met w_best w_kept w_squares w_far w_queue u.1 v_isImage v_tape v_taped u.2 v_wrongHour v_wrongThing v_soonest v_bestSteps)) (fun (r : Int32) (u : IA × Int32) => nz r ∧ K r u.1 u.2)) (hE210 : ∀ (x3' : Int32) (x4' : Int32) (x5' : Int32) (v_read' : IA) (v_at' : Int32) (H : Heap) (locs : List Loc) (ls : Array Slot), E210 x3' x4' x5' v_read' v_at' → wd D A s.heap (w_X11_readsFloor cy a_this a_read a_tape w_refusals w_s w_image w_told w_met w_best w_kept w_squares w_far w_queue v_read' v_isImage v_tape v_taped v_at' v_wrongHour v_wrongThing v_soonest v_bestSteps) H locs → lv_has ls 6 [(0, .ref a_this), (1, .int x1), (2, .int x2), (3, .int x3'), (4, .int x4'), (5, .int x5')] → W p l e { frames := 3, cells := 0, slots := 0, locals := 233 } s m args below meth c H locs 0 0 Q (F0 m 210 ls [])) : ∀ (n : Nat) (x3 : Int32) (x4 : Int32) (x5 : Int32) (v_read : IA) (v_at : Int32) (H : Heap) (locs : List Loc) (ls : Array Slot), wp_X11_readsFloor_41 x1 x2 v_tape v_taped E210 K n x3 x4 x5 v_read v_at → wd D A s.heap (w_X11_readsFloor cy a_this a_read a_tape w_refusals w_s w_image w_told w_met w_best w_kept w_squares w_far w_queue v_read v_isImage v_tape v_taped v_at v_wrongHour v_wrongThing v_soonest v_bestSteps) H locs → lv_has ls 6 [(0, .ref a_this), (1, .int x1), (2, .int x2), (3, .int x3), (4, .int x4), (5, .int x5)] → W p l e { frames := 3, cells := 0, slots := 0, locals := 233 } s m args below meth c H locs 0 0 Q (F0 m 41 ls []) := by
  have hx := ha.1
  have hb := ha.2.1
  intro n
  induction n with
  | zero => exact fun _ _ _ _ _ _ _ _ h _ _ => False.elim h
  | succ n ih =>
    intro x3 x4 x5 v_read v_at H locs ls h hw hl
    have h : wp_X11_sign v_tape v_taped v_at (fun (r8 : Int32) => (r8 = (46 : Int32) → wp_X11_readsFloor_68 x1 x2 v_tape v_taped (fun (x3_84 : Int32) (x4_85 : Int32) (x5_86 : Int32) (v_read_87 : IA) (v_at_88 : Int32) => wp_X11_readsFloor_41 x1 x2 v_tape v_taped E210 K n x3_84 x4_85 x5_86 v_read_87 v_at_88) K x3 x4 x5 v_read v_at) ∧ (¬ (r8 = (46 : Int32)) → wp_X11_sign v_tape v_taped v_at (fun (r89 : Int32) => (r89 = (35 : Int32) → wp_X11_readsFloor_68 x1 x2 v_tape v_taped (fun (x3_91 : Int32) (x4_92 : Int32) (x5_93 : Int32) (v_read_94 : IA) (v_at_95 : Int32) => wp_X11_readsFloor_41 x1 x2 v_tape v_taped E210 K n x3_91 x4_92 x5_93 v_read_94 v_at_95) K x3 x4 x5 v_read v_at) ∧ (¬ (r89 = (35 : Int32)) → wp_X11_sign v_tape v_taped v_at (fun (r96 : Int32) => (r96 = (100 : Int32) → wp_X11_readsFloor_68 x1 x2 v_tape v_taped (fun (x3_98 : Int32) (x4_99 : Int32) (x5_100 : Int32) (v_read_101 : IA) (v_at_102 : Int32) => wp_X11_readsFloor_41 x1 x2 v_tape v_taped E210 K n x3_98 x4_99 x5_100 v_read_101 v_at_102) K x3 x4 x5 v_read v_at) ∧ (¬ (r96 = (100 : Int32)) → E210 x3 x4 x5 v_read v_at)))))) := h
    refine lv_aload_n hx hb dX11_readsFloor_41 rfl (lv_at hl 0 rfl) ?_
    refine g_cvi (rm := { frames := 1, cells := 0, slots := 0, locals := 64 }) (wn := (fun (u : Unit) => (w_X11_readsFloor cy a_this a_read a_tape w_refusals w_s w_image w_told w_met w_best w_kept w_squares w_far w_queue v_read v_isImage v_tape v_taped v_at v_wrongHour v_wrongThing v_soonest v_bestSteps))) (As := []) ha hw hl.1 (c_X11_sign (cy := cy)) (cwV 0 ha.2.2.2.2.1 gX11_readsFloor_X11_sign rfl rfl rfl hq_X11_sign ⟨Nat.le_of_ble_eq_true rfl, Nat.le_of_ble_eq_true rfl⟩) [0, 2] [1] [1, 0, 2] rfl rfl rfl rfl (by decide) rfl (fun _ => rfl) rfl rfl h rfl rfl (Nat.le_of_ble_eq_true rfl) dX11_readsFloor_42 ⟨Nat.le_refl _, Nat.le_refl _⟩ (fun r8 u H locs h hw => ?_)
    have hw : wd D A s.heap (w_X11_readsFloor cy a_this a_read a_tape w_refusals w_s w_image w_told w_met w_best w_kept w_squares w_far w_queue v_read v_isImage v_tape v_taped v_at v_wrongHour v_wrongThing v_soonest v_bestSteps) H locs := hw
    try dsimp only at h
    refine lv_bipush (v := (46 : Int32)) hx hb dX11_readsFloor_45 (by decide) ?_
    refine lv_icmp_eq (tgt := 68) hx hb dX11_readsFloor_47 (by decide) (fun c9 => ?_) (fun c9 => ?_)
    · have h := h.1 c9
      refine pl_X11_readsFloor_68 ha hr ?_ h hw (lv_sub hl [0, 1, 2, 3, 4, 5] rfl)
      · intro x3_84 x4_85 x5_86 v_read_87 v_at_88 H locs ls h hw hl
        try dsimp only at h
        exact ih _ _ _ _ _ _ _ _ h hw (lv_sub hl [0, 1, 2, 3, 4, 5] rfl)
    · have h := h.2 c9
      refine lv_aload_n hx hb dX11_readsFloor_50 rfl (lv_at hl 0 rfl) ?_
      refine g_cvi (rm := { frames := 1, cells := 0, slots := 0, locals := 64 }) (wn := (fun (u : Unit) => (w_X11_readsFloor cy a_this a_read a_tape w_refusals w_s w_image w_told w_met w_best w_kept w_squares w_far w_queue v_read v_isImage v_tape v_taped v_at v_wrongHour v_wrongThing v_soonest v_bestSteps))) (As := []) ha hw hl.1 (c_X11_sign (cy := cy)) (cwV 0 ha.2.2.2.2.1 gX11_readsFloor_X11_sign rfl rfl rfl hq_X11_sign ⟨Nat.le_of_ble_eq_true rfl, Nat.le_of_ble_eq_true rfl⟩) [0, 2] [1] [1, 0, 2] rfl rfl rfl rfl (by decide) rfl (fun _ => rfl) rfl rfl h rfl rfl (Nat.le_of_ble_eq_true rfl) dX11_readsFloor_51 ⟨Nat.le_refl _, Nat.le_refl _⟩ (fun r89 u H locs h hw => ?_)
      have hw : wd D A s.heap (w_X11_readsFloor cy a_this a_read a_tape w_refusals w_s w_image w_told w_met w_best w_kept w_squares w_far w_queue v_read v_isImage v_tape v_taped v_at v_wrongHour v_wrongThing v_soonest v_bestSteps) H locs := hw
      try dsimp only at h
      refine lv_bipush (v := (35 : Int32)) hx hb dX11_readsFloor_54 (by decide) ?_
      refine lv_icmp_eq (tgt := 68) hx hb dX11_readsFloor_56 (by decide) (fun c90 => ?_) (fun c90 => ?_)
      · have h := h.1 c90
        refine pl_X11_readsFloor_68 ha hr ?_ h hw (lv_sub hl [0, 1, 2, 3, 4, 5] rfl)
        · intro x3_91 x4_92 x5_93 v_read_94 v_at_95 H locs ls h hw hl
          try dsimp only at h
          exact ih _ _ _ _ _ _ _ _ h hw (lv_sub hl [0, 1, 2, 3, 4, 5] rfl)
      · have h := h.2 c90
        refine lv_aload_n hx hb dX11_readsFloor_59 rfl (lv_at hl 0 rfl) ?_
        refine g_cvi (rm := { frames := 1, cells := 0, slots := 0, locals := 64 }) (wn := (fun (u : Unit) => (w_X11_readsFloor cy a_this a_read a_tape w_refusals w_s w_image w_told w_met w_best w_kept w_squares w_far w_queue v_read v_isImage v_tape v_taped v_at v_wrongHour v_wrongThing v_soonest v_bestSteps))) (As := []) ha hw hl.1 (c_X11_sign (cy := cy)) (cwV 0 ha.2.2.2.2.1 gX11_readsFloor_X11_sign rfl rfl rfl hq_X11_sign ⟨Nat.le_of_ble_eq_true rfl, Nat.le_of_ble_eq_true rfl⟩) [0, 2] [1] [1, 0, 2] rfl rfl rfl rfl (by decide) rfl (fun _ => rfl) rfl rfl h rfl rfl (Nat.le_of_ble_eq_true rfl) dX11_readsFloor_60 ⟨Nat.le_refl _, Nat.le_refl _⟩ (fun r96 u H locs h hw => ?_)
        have hw : wd D A s.heap (w_X11_readsFloor cy a_this a_read a_tape w_refusals w_s w_image w_told w_met w_best w_kept w_squares w_far w_queue v_read v_isImage v_tape v_taped v_at v_wrongHour v_wrongThing v_soonest v_bestSteps) H locs := hw
        try dsimp only at h
        refine lv_bipush (v := (100 : Int32)) hx hb dX11_readsFloor_63 (by decide) ?_
        refine lv_icmp_ne (tgt := 210) hx hb dX11_readsFloor_65 (by decide) (fun c97 => ?_) (fun c97 => ?_)
        · have h := h.2 c97
          exact hE210 _ _ _ _ _ _ _ _ h hw (lv_sub hl [0, 1, 2, 3, 4, 5] rfl)
        · have h := h.1 c97
          refine pl_X11_readsFloor_68 ha hr ?_ h hw (lv_sub hl [0, 1, 2, 3, 4, 5] rfl)
          · intro x3_98 x4_99 x5_100 v_read_101 v_at_102 H locs ls h hw hl
            try dsimp only at h
            exact ih _ _ _ _ _ _ _ _ h hw (lv_sub hl [0, 1, 2, 3, 4, 5] rfl)
def wp_X11_readsFloor_227 (x5 : Int32) (v_tape : IA) (v_taped : Int32) (E247 : Int32 → Int32 → Int32 → Prop) (E38 : Int32 → Int32 → Int32 → Prop) (K : Int32 → IA → Int32 → Prop) (x1 : Int32) (v_at : Int32) : Prop := ((5 : Int32) ≤ (x1 + (1 : Int32)) → E247 (x1 + (1 : Int32)) x5 v_at) ∧ (¬ ((5 : Int32) ≤ (x1 + (1 : Int32))) → wp_X11_takes (47 : Int32) v_tape v_taped v_at (fun (r111 : Int32) (v_at_112 : Int32) => (r111 = 0 → E247 (x1 + (1 : Int32)) x5 v_at_112) ∧ (¬ (r111 = 0) → E38 (x1 + (1 : Int32)) x5 v_at_112)))
set_option maxHeartbeats 4000000 in
set_option maxRecDepth 100000 in
theorem pl_X11_readsFloor_227 {p : Program} {l : Launch} {e : Env} {s : State} {m : MethodId} {args : Array Value} {below : List Frame} {meth : Method} {c : Code} {A : Nat → Prop} {Q : State → Prop} {D : va_G} {cy : ClassId} {a_this a_read a_tape : Nat} {w_refusals w_s w_image w_told w_met w_best w_kept w_squares w_far w_queue : Value} {v_read : IA} {v_isImage : Int32} {v_tape : IA} {v_taped : Int32} {v_wrongHour : Int32} {v_wrongThing : Int32} {v_soonest : Int32} {v_bestSteps : Int32} {x5 : Int32} {x3 : Int32} {x4 : Int32} {K : Int32 → IA → Int32 → Prop} {E247 : Int32 → Int32 → Int32 → Prop} {E38 : Int32 → Int32 → Int32 → Prop} (ha : am p s m args c cX11_readsFloor 6 RX11 wsX11_readsFloor D cy A) (hr : rtI p l e { frames := 3, cells := 0, slots := 0, locals := 233 } s m args below meth c 0 0 Q cX11_readsFloor D A (fun (u : IA × Int32) => (w_X11_readsFloor cy a_this a_read a_tape w_refusals w_s w_image w_told w_met w_best w_kept w_squares w_far w_queue u.1 v_isImage v_tape v_taped u.2 v_wrongHour v_wrongThing v_soonest v_bestSteps)) (fun (r : Int32) (u : IA × Int32) => nz r ∧ K r u.1 u.2)) (hE247 : ∀ (x1' : Int32) (x2' : Int32) (v_at' : Int32) (H : Heap) (locs : List Loc) (ls : Array Slot), E247 x1' x2' v_at' → wd D A s.heap (w_X11_readsFloor cy a_this a_read a_tape w_refusals w_s w_image w_told w_met w_best w_kept w_squares w_far w_queue v_read v_isImage v_tape v_taped v_at' v_wrongHour v_wrongThing v_soonest v_bestSteps) H locs → lv_has ls 6 [(0, .ref a_this), (1, .int x1'), (2, .int x2'), (3, .int x3), (4, .int x4)] → W p l e { frames := 3, cells := 0, slots := 0, locals := 233 } s m args below meth c H locs 0 0 Q (F0 m 247 ls [])) (hE38 : ∀ (x1' : Int32) (x2' : Int32) (v_at' : Int32) (H : Heap) (locs : List Loc) (ls : Array Slot), E38 x1' x2' v_at' → wd D A s.heap (w_X11_readsFloor cy a_this a_read a_tape w_refusals w_s w_image w_told w_met w_best w_kept w_squares w_far w_queue v_read v_isImage v_tape v_taped v_at' v_wrongHour v_wrongThing v_soonest v_bestSteps) H locs → lv_has ls 6 [(0, .ref a_this), (1, .int x1'), (2, .int x2'), (3, .int x3), (4, .int x4)] → W p l e { frames := 3, cells := 0, slots := 0, locals := 233 } s m args below meth c H locs 0 0 Q (F0 m 38 ls [])) {x1 : Int32} {v_at : Int32} {H : Heap} {locs : List Loc} {ls : Array Slot} : wp_X11_readsFloor_227 x5 v_tape v_taped E247 E38 K x1 v_at → wd D A s.heap (w_X11_readsFloor cy a_this a_read a_tape w_refusals w_s w_image w_told w_met w_best w_kept w_squares w_far w_queue v_read v_isImage v_tape v_taped v_at v_wrongHour v_wrongThing v_soonest v_bestSteps) H locs → lv_has ls 6 [(0, .ref a_this), (1, .int x1), (3, .int x3), (4, .int x4), (5, .int x5)] → W p l e { frames := 3, cells := 0, slots := 0, locals := 233 } s m args below meth c H locs 0 0 Q (F0 m 227 ls []) := by
  have hx := ha.1
  have hb := ha.2.1
  intro h hw hl
  have h : ((5 : Int32) ≤ (x1 + (1 : Int32)) → E247 (x1 + (1 : Int32)) x5 v_at) ∧ (¬ ((5 : Int32) ≤ (x1 + (1 : Int32))) → wp_X11_takes (47 : Int32) v_tape v_taped v_at (fun (r111 : Int32) (v_at_112 : Int32) => (r111 = 0 → E247 (x1 + (1 : Int32)) x5 v_at_112) ∧ (¬ (r111 = 0) → E38 (x1 + (1 : Int32)) x5 v_at_112))) := h
  refine lv_iload hx hb dX11_readsFloor_227 (lv_at hl 4 rfl) ?_
  refine lv_istore_n (lv' := [(2, .int x5), (0, .ref a_this), (1, .int x1), (3, .int x3), (4, .int x4), (5, .int x5)]) hx hb dX11_readsFloor_229 rfl hl (by decide) rfl (fun ls hl => ?_)
  refine lv_iinc (v := x1 + (1 : Int32)) (lv' := [(1, .int (x1 + (1 : Int32))), (2, .int x5), (0, .ref a_this), (3, .int x3), (4, .int x4), (5, .int x5)]) hx hb dX11_readsFloor_230 hl (k := 2) rfl rfl (by decide) rfl (fun ls hl => ?_)
  refine lv_iload_n hx hb dX11_readsFloor_233 rfl (lv_at hl 0 rfl) ?_
  refine lv_iconst (v := (5 : Int32)) hx hb dX11_readsFloor_234 (by decide) ?_
  refine lv_icmp_ge (tgt := 247) hx hb dX11_readsFloor_235 (by decide) (fun c110 => ?_) (fun c110 => ?_)
  · have h := h.1 c110
    exact hE247 _ _ _ _ _ _ h hw (lv_sub hl [2, 0, 1, 3, 4] rfl)
  · have h := h.2 c110
    refine lv_aload_n hx hb dX11_readsFloor_238 rfl (lv_at hl 2 rfl) ?_
    refine lv_bipush (v := (47 : Int32)) hx hb dX11_readsFloor_239 (by decide) ?_
    refine g_cvi (rm := { frames := 2, cells := 0, slots := 0, locals := 148 }) (wn := (fun (u : Int32) => (w_X11_readsFloor cy a_this a_read a_tape w_refusals w_s w_image w_told w_met w_best w_kept w_squares w_far w_queue v_read v_isImage v_tape v_taped u v_wrongHour v_wrongThing v_soonest v_bestSteps))) (As := [.int (47 : Int32)]) ha hw hl.1 (c_X11_takes (cy := cy)) (cwV 1 ha.2.2.2.2.1 gX11_readsFloor_X11_takes rfl rfl rfl hq_X11_takes ⟨Nat.le_of_ble_eq_true rfl, Nat.le_of_ble_eq_true rfl⟩) [0, 2] [1] [1, 0, 2] rfl rfl rfl rfl (by decide) rfl (fun _ => rfl) rfl rfl h rfl rfl (Nat.le_of_ble_eq_true rfl) dX11_readsFloor_241 ⟨Nat.le_refl _, Nat.le_refl _⟩ (fun r111 u H locs h hw => ?_)
    obtain ⟨v_at_112, rfl⟩ : ∃ z, z = u := ⟨_, rfl⟩
    have hw : wd D A s.heap (w_X11_readsFloor cy a_this a_read a_tape w_refusals w_s w_image w_told w_met w_best w_kept w_squares w_far w_queue v_read v_isImage v_tape v_taped v_at_112 v_wrongHour v_wrongThing v_soonest v_bestSteps) H locs := hw
    obtain ⟨zr111, h⟩ := h
    try dsimp only at h
    refine lv_if_ne (tgt := 38) hx hb dX11_readsFloor_244 (by decide) (fun c113 => ?_) (fun c113 => ?_)
    · have h := h.2 c113
      exact hE38 _ _ _ _ _ _ h hw (lv_sub hl [2, 0, 1, 3, 4] rfl)
    · have h := h.1 c113
      exact hE247 _ _ _ _ _ _ h hw (lv_sub hl [2, 0, 1, 3, 4] rfl)
def wp_X11_readsFloor_38 (v_tape : IA) (v_taped : Int32) (E247 : Int32 → Int32 → Int32 → Int32 → IA → Int32 → Prop) (K : Int32 → IA → Int32 → Prop) : Nat → Int32 → Int32 → Int32 → Int32 → IA → Int32 → Prop
  | 0, _, _, _, _, _, _ => False
  | n + 1, x1, x2, x3, x4, v_read, v_at => ∃ n127 : Nat, wp_X11_readsFloor_41 x1 x2 v_tape v_taped (fun (x3_103 : Int32) (x4_104 : Int32) (x5_105 : Int32) (v_read_106 : IA) (v_at_107 : Int32) => (x5_105 = 0 → K (0 : Int32) v_read_106 v_at_107) ∧ (¬ (x5_105 = 0) → (x1 ≤ 0 → wp_X11_readsFloor_227 x5_105 v_tape v_taped (fun (x1_114 : Int32) (x2_115 : Int32) (v_at_116 : Int32) => E247 x1_114 x2_115 x3_103 x4_104 v_read_106 v_at_116) (fun (x1_117 : Int32) (x2_118 : Int32) (v_at_119 : Int32) => wp_X11_readsFloor_38 v_tape v_taped E247 K n x1_117 x2_118 x3_103 x4_104 v_read_106 v_at_119) K x1 v_at_107) ∧ (¬ (x1 ≤ 0) → (x2 ≤ x5_105 → wp_X11_readsFloor_227 x5_105 v_tape v_taped (fun (x1_121 : Int32) (x2_122 : Int32) (v_at_123 : Int32) => E247 x1_121 x2_122 x3_103 x4_104 v_read_106 v_at_123) (fun (x1_124 : Int32) (x2_125 : Int32) (v_at_126 : Int32) => wp_X11_readsFloor_38 v_tape v_taped E247 K n x1_124 x2_125 x3_103 x4_104 v_read_106 v_at_126) K x1 v_at_107) ∧ (¬ (x2 ≤ x5_105) → K (0 : Int32) v_read_106 v_at_107)))) K n127 x3 x4 (0 : Int32) v_read v_at
set_option maxHeartbeats 4000000 in
set_option maxRecDepth 100000 in
theorem pl_X11_readsFloor_38 {p : Program} {l : Launch} {e : Env} {s : State} {m : MethodId} {args : Array Value} {below : List Frame} {meth : Method} {c : Code} {A : Nat → Prop} {Q : State → Prop} {D : va_G} {cy : ClassId} {a_this a_read a_tape : Nat} {w_refusals w_s w_image w_told w_met w_best w_kept w_squares w_far w_queue : Value} {v_isImage : Int32} {v_tape : IA} {v_taped : Int32} {v_wrongHour : Int32} {v_wrongThing : Int32} {v_soonest : Int32} {v_bestSteps : Int32} {K : Int32 → IA → Int32 → Prop} {E247 : Int32 → Int32 → Int32 → Int32 → IA → Int32 → Prop} (ha : am p s m args c cX11_readsFloor 6 RX11 wsX11_readsFloor D cy A) (hr : rtI p l e { frames := 3, cells := 0, slots := 0, locals := 233 } s m args below meth c 0 0 Q cX11_readsFloor D A (fun (u : IA × Int32) => (w_X11_readsFloor cy a_this a_read a_tape w_refusals w_s w_image w_told w_met w_best w_kept w_squares w_far w_queue u.1 v_isImage v_tape v_taped u.2 v_wrongHour v_wrongThing v_soonest v_bestSteps)) (fun (r : Int32) (u : IA × Int32) => nz r ∧ K r u.1 u.2)) (hE247 : ∀ (x1' : Int32) (x2' : Int32) (x3' : Int32) (x4' : Int32) (v_read' : IA) (v_at' : Int32) (H : Heap) (locs : List Loc) (ls : Array Slot), E247 x1' x2' x3' x4' v_read' v_at' → wd D A s.heap (w_X11_readsFloor cy a_this a_read a_tape w_refusals w_s w_image w_told w_met w_best w_kept w_squares w_far w_queue v_read' v_isImage v_tape v_taped v_at' v_wrongHour v_wrongThing v_soonest v_bestSteps) H locs → lv_has ls 6 [(0, .ref a_this), (1, .int x1'), (2, .int x2'), (3, .int x3'), (4, .int x4')] → W p l e { frames := 3, cells := 0, slots := 0, locals := 233 } s m args below meth c H locs 0 0 Q (F0 m 247 ls [])) : ∀ (n : Nat) (x1 : Int32) (x2 : Int32) (x3 : Int32) (x4 : Int32) (v_read : IA) (v_at : Int32) (H : Heap) (locs : List Loc) (ls : Array Slot), wp_X11_readsFloor_38 v_tape v_taped E247 K n x1 x2 x3 x4 v_read v_at → wd D A s.heap (w_X11_readsFloor cy a_this a_read a_tape w_refusals w_s w_image w_told w_met w_best w_kept w_squares w_far w_queue v_read v_isImage v_tape v_taped v_at v_wrongHour v_wrongThing v_soonest v_bestSteps) H locs → lv_has ls 6 [(0, .ref a_this), (1, .int x1), (2, .int x2), (3, .int x3), (4, .int x4)] → W p l e { frames := 3, cells := 0, slots := 0, locals := 233 } s m args below meth c H locs 0 0 Q (F0 m 38 ls []) := by
  have hx := ha.1
  have hb := ha.2.1
  intro n
  induction n with
  | zero => exact fun _ _ _ _ _ _ _ _ _ h _ _ => False.elim h
  | succ n ih =>
    intro x1 x2 x3 x4 v_read v_at H locs ls h hw hl
    have h : ∃ n127 : Nat, wp_X11_readsFloor_41 x1 x2 v_tape v_taped (fun (x3_103 : Int32) (x4_104 : Int32) (x5_105 : Int32) (v_read_106 : IA) (v_at_107 : Int32) => (x5_105 = 0 → K (0 : Int32) v_read_106 v_at_107) ∧ (¬ (x5_105 = 0) → (x1 ≤ 0 → wp_X11_readsFloor_227 x5_105 v_tape v_taped (fun (x1_114 : Int32) (x2_115 : Int32) (v_at_116 : Int32) => E247 x1_114 x2_115 x3_103 x4_104 v_read_106 v_at_116) (fun (x1_117 : Int32) (x2_118 : Int32) (v_at_119 : Int32) => wp_X11_readsFloor_38 v_tape v_taped E247 K n x1_117 x2_118 x3_103 x4_104 v_read_106 v_at_119) K x1 v_at_107) ∧ (¬ (x1 ≤ 0) → (x2 ≤ x5_105 → wp_X11_readsFloor_227 x5_105 v_tape v_taped (fun (x1_121 : Int32) (x2_122 : Int32) (v_at_123 : Int32) => E247 x1_121 x2_122 x3_103 x4_104 v_read_106 v_at_123) (fun (x1_124 : Int32) (x2_125 : Int32) (v_at_126 : Int32) => wp_X11_readsFloor_38 v_tape v_taped E247 K n x1_124 x2_125 x3_103 x4_104 v_read_106 v_at_126) K x1 v_at_107) ∧ (¬ (x2 ≤ x5_105) → K (0 : Int32) v_read_106 v_at_107)))) K n127 x3 x4 (0 : Int32) v_read v_at := h
    refine lv_iconst (v := (0 : Int32)) hx hb dX11_readsFloor_38 (by decide) ?_
    refine lv_istore (lv' := [(5, .int (0 : Int32)), (0, .ref a_this), (1, .int x1), (2, .int x2), (3, .int x3), (4, .int x4)]) hx hb dX11_readsFloor_39 hl (by decide) rfl (fun ls hl => ?_)
    obtain ⟨n9, h⟩ := h
    refine pl_X11_readsFloor_41 ha hr ?_ n9 _ _ _ _ _ _ _ _ h hw (lv_sub hl [1, 2, 3, 4, 5, 0] rfl)
    · intro x3_103 x4_104 x5_105 v_read_106 v_at_107 H locs ls h hw hl
      try dsimp only at h
      refine lv_iload hx hb dX11_readsFloor_210 (lv_at hl 5 rfl) ?_
      refine lv_if_eq (tgt := 225) hx hb dX11_readsFloor_212 (by decide) (fun c108 => ?_) (fun c108 => ?_)
      · have h := h.1 c108
        refine lv_iconst (v := (0 : Int32)) hx hb dX11_readsFloor_225 (by decide) ?_
        exact hr _ _ (v_read_106, v_at_107) _ _ _ dX11_readsFloor_226 ⟨nz0, h⟩ hw
      · have h := h.2 c108
        refine lv_iload_n hx hb dX11_readsFloor_215 rfl (lv_at hl 1 rfl) ?_
        refine lv_if_le (tgt := 227) hx hb dX11_readsFloor_216 (by decide) (fun c109 => ?_) (fun c109 => ?_)
        · have h := h.1 c109
          refine pl_X11_readsFloor_227 ha hr ?_ ?_ h hw (lv_sub hl [0, 1, 3, 4, 5] rfl)
          · intro x1_114 x2_115 v_at_116 H locs ls h hw hl
            try dsimp only at h
            exact hE247 _ _ _ _ _ _ _ _ _ h hw (lv_sub hl [0, 1, 2, 3, 4] rfl)
          · intro x1_117 x2_118 v_at_119 H locs ls h hw hl
            try dsimp only at h
            exact ih _ _ _ _ _ _ _ _ _ h hw (lv_sub hl [0, 1, 2, 3, 4] rfl)
        · have h := h.2 c109
          refine lv_iload hx hb dX11_readsFloor_219 (lv_at hl 5 rfl) ?_
          refine lv_iload_n hx hb dX11_readsFloor_221 rfl (lv_at hl 2 rfl) ?_
          refine lv_icmp_ge (tgt := 227) hx hb dX11_readsFloor_222 (by decide) (fun c120 => ?_) (fun c120 => ?_)
          · have h := h.1 c120
            refine pl_X11_readsFloor_227 ha hr ?_ ?_ h hw (lv_sub hl [0, 1, 3, 4, 5] rfl)
            · intro x1_121 x2_122 v_at_123 H locs ls h hw hl
              try dsimp only at h
              exact hE247 _ _ _ _ _ _ _ _ _ h hw (lv_sub hl [0, 1, 2, 3, 4] rfl)
            · intro x1_124 x2_125 v_at_126 H locs ls h hw hl
              try dsimp only at h
              exact ih _ _ _ _ _ _ _ _ _ h hw (lv_sub hl [0, 1, 2, 3, 4] rfl)
          · have h := h.2 c120
            refine lv_iconst (v := (0 : Int32)) hx hb dX11_readsFloor_225 (by decide) ?_
            exact hr _ _ (v_read_106, v_at_107) _ _ _ dX11_readsFloor_226 ⟨nz0, h⟩ hw
def wp_X11_readsFloor_247 (x1 : Int32) (x2 : Int32) (x3 : Int32) (x4 : Int32) (v_taped : Int32) (v_at : Int32) (K : Int32 → IA → Int32 → Prop) (v_read : IA) : Prop := (v_at = v_taped → (x4 = 0 → K (0 : Int32) (upd (upd (upd v_read (93 : Int32).toNatClampNeg x1) (94 : Int32).toNatClampNeg x2) (0 : Int32).toNatClampNeg x3) v_at) ∧ (¬ (x4 = 0) → K (1 : Int32) (upd (upd (upd v_read (93 : Int32).toNatClampNeg x1) (94 : Int32).toNatClampNeg x2) (0 : Int32).toNatClampNeg x3) v_at)) ∧ (¬ (v_at = v_taped) → K (0 : Int32) (upd (upd (upd v_read (93 : Int32).toNatClampNeg x1) (94 : Int32).toNatClampNeg x2) (0 : Int32).toNatClampNeg x3) v_at)
set_option maxHeartbeats 4000000 in
set_option maxRecDepth 100000 in
theorem pl_X11_readsFloor_247 {p : Program} {l : Launch} {e : Env} {s : State} {m : MethodId} {args : Array Value} {below : List Frame} {meth : Method} {c : Code} {A : Nat → Prop} {Q : State → Prop} {D : va_G} {cy : ClassId} {a_this a_read a_tape : Nat} {w_refusals w_s w_image w_told w_met w_best w_kept w_squares w_far w_queue : Value} {v_isImage : Int32} {v_tape : IA} {v_taped : Int32} {v_at : Int32} {v_wrongHour : Int32} {v_wrongThing : Int32} {v_soonest : Int32} {v_bestSteps : Int32} {x1 : Int32} {x2 : Int32} {x3 : Int32} {x4 : Int32} {K : Int32 → IA → Int32 → Prop} (ha : am p s m args c cX11_readsFloor 6 RX11 wsX11_readsFloor D cy A) (hr : rtI p l e { frames := 3, cells := 0, slots := 0, locals := 233 } s m args below meth c 0 0 Q cX11_readsFloor D A (fun (u : IA × Int32) => (w_X11_readsFloor cy a_this a_read a_tape w_refusals w_s w_image w_told w_met w_best w_kept w_squares w_far w_queue u.1 v_isImage v_tape v_taped u.2 v_wrongHour v_wrongThing v_soonest v_bestSteps)) (fun (r : Int32) (u : IA × Int32) => nz r ∧ K r u.1 u.2)) {v_read : IA} {H : Heap} {locs : List Loc} {ls : Array Slot} : wp_X11_readsFloor_247 x1 x2 x3 x4 v_taped v_at K v_read → wd D A s.heap (w_X11_readsFloor cy a_this a_read a_tape w_refusals w_s w_image w_told w_met w_best w_kept w_squares w_far w_queue v_read v_isImage v_tape v_taped v_at v_wrongHour v_wrongThing v_soonest v_bestSteps) H locs → lv_has ls 6 [(0, .ref a_this), (1, .int x1), (2, .int x2), (3, .int x3), (4, .int x4)] → W p l e { frames := 3, cells := 0, slots := 0, locals := 233 } s m args below meth c H locs 0 0 Q (F0 m 247 ls []) := by
  have hx := ha.1
  have hb := ha.2.1
  intro h hw hl
  have h : (v_at = v_taped → (x4 = 0 → K (0 : Int32) (upd (upd (upd v_read (93 : Int32).toNatClampNeg x1) (94 : Int32).toNatClampNeg x2) (0 : Int32).toNatClampNeg x3) v_at) ∧ (¬ (x4 = 0) → K (1 : Int32) (upd (upd (upd v_read (93 : Int32).toNatClampNeg x1) (94 : Int32).toNatClampNeg x2) (0 : Int32).toNatClampNeg x3) v_at)) ∧ (¬ (v_at = v_taped) → K (0 : Int32) (upd (upd (upd v_read (93 : Int32).toNatClampNeg x1) (94 : Int32).toNatClampNeg x2) (0 : Int32).toNatClampNeg x3) v_at) := h
  refine lv_aload_n hx hb dX11_readsFloor_247 rfl (lv_at hl 0 rfl) ?_
  refine g_get (ci := 11) ha hw 0 3 rfl hi_X11_readsFloor_11 (by decide) (List.mem_of_getElem? (i := 2) rfl) rfl rfl dX11_readsFloor_248 ?_
  refine lv_bipush (v := (93 : Int32)) hx hb dX11_readsFloor_251 (by decide) ?_
  refine lv_iload_n hx hb dX11_readsFloor_253 rfl (lv_at hl 1 rfl) ?_
  refine g_ast (wn := (w_X11_readsFloor cy a_this a_read a_tape w_refusals w_s w_image w_told w_met w_best w_kept w_squares w_far w_queue (upd v_read (93 : Int32).toNatClampNeg x1) v_isImage v_tape v_taped v_at v_wrongHour v_wrongThing v_soonest v_bestSteps)) ha hw 1 rfl (vp_in_iff.mpr (by decide)) rfl dX11_readsFloor_254 (fun H locs hw => ?_)
  refine lv_aload_n hx hb dX11_readsFloor_255 rfl (lv_at hl 0 rfl) ?_
  refine g_get (ci := 11) ha hw 0 3 rfl hi_X11_readsFloor_11 (by decide) (List.mem_of_getElem? (i := 2) rfl) rfl rfl dX11_readsFloor_256 ?_
  refine lv_bipush (v := (94 : Int32)) hx hb dX11_readsFloor_259 (by decide) ?_
  refine lv_iload_n hx hb dX11_readsFloor_261 rfl (lv_at hl 2 rfl) ?_
  refine g_ast (wn := (w_X11_readsFloor cy a_this a_read a_tape w_refusals w_s w_image w_told w_met w_best w_kept w_squares w_far w_queue (upd (upd v_read (93 : Int32).toNatClampNeg x1) (94 : Int32).toNatClampNeg x2) v_isImage v_tape v_taped v_at v_wrongHour v_wrongThing v_soonest v_bestSteps)) ha hw 1 rfl (vp_in_iff.mpr (by decide)) rfl dX11_readsFloor_262 (fun H locs hw => ?_)
  refine lv_aload_n hx hb dX11_readsFloor_263 rfl (lv_at hl 0 rfl) ?_
  refine g_get (ci := 11) ha hw 0 3 rfl hi_X11_readsFloor_11 (by decide) (List.mem_of_getElem? (i := 2) rfl) rfl rfl dX11_readsFloor_264 ?_
  refine lv_iconst (v := (0 : Int32)) hx hb dX11_readsFloor_267 (by decide) ?_
  refine lv_iload_n hx hb dX11_readsFloor_268 rfl (lv_at hl 3 rfl) ?_
  refine g_ast (wn := (w_X11_readsFloor cy a_this a_read a_tape w_refusals w_s w_image w_told w_met w_best w_kept w_squares w_far w_queue (upd (upd (upd v_read (93 : Int32).toNatClampNeg x1) (94 : Int32).toNatClampNeg x2) (0 : Int32).toNatClampNeg x3) v_isImage v_tape v_taped v_at v_wrongHour v_wrongThing v_soonest v_bestSteps)) ha hw 1 rfl (vp_in_iff.mpr (by decide)) rfl dX11_readsFloor_269 (fun H locs hw => ?_)
  refine lv_aload_n hx hb dX11_readsFloor_270 rfl (lv_at hl 0 rfl) ?_
  refine g_get (ci := 11) ha hw 0 8 rfl hi_X11_readsFloor_11 (by decide) (List.mem_of_getElem? (i := 1) rfl) rfl rfl dX11_readsFloor_271 ?_
  refine lv_aload_n hx hb dX11_readsFloor_274 rfl (lv_at hl 0 rfl) ?_
  refine g_get (ci := 11) ha hw 0 7 rfl hi_X11_readsFloor_11 (by decide) (List.mem_of_getElem? (i := 3) rfl) rfl rfl dX11_readsFloor_275 ?_
  refine lv_icmp_ne (tgt := 290) hx hb dX11_readsFloor_278 (by decide) (fun c134 => ?_) (fun c134 => ?_)
  · have h := h.2 c134
    refine lv_iconst (v := (0 : Int32)) hx hb dX11_readsFloor_290 (by decide) ?_
    exact hr _ _ (upd (upd (upd v_read (93 : Int32).toNatClampNeg x1) (94 : Int32).toNatClampNeg x2) (0 : Int32).toNatClampNeg x3, v_at) _ _ _ dX11_readsFloor_291 ⟨nz0, h⟩ hw
  · have h := h.1 c134
    refine lv_iload hx hb dX11_readsFloor_281 (lv_at hl 4 rfl) ?_
    refine lv_if_eq (tgt := 290) hx hb dX11_readsFloor_283 (by decide) (fun c135 => ?_) (fun c135 => ?_)
    · have h := h.1 c135
      refine lv_iconst (v := (0 : Int32)) hx hb dX11_readsFloor_290 (by decide) ?_
      exact hr _ _ (upd (upd (upd v_read (93 : Int32).toNatClampNeg x1) (94 : Int32).toNatClampNeg x2) (0 : Int32).toNatClampNeg x3, v_at) _ _ _ dX11_readsFloor_291 ⟨nz0, h⟩ hw
    · have h := h.2 c135
      refine lv_iconst (v := (1 : Int32)) hx hb dX11_readsFloor_286 (by decide) ?_
      refine lv_goto (tgt := 291) hx hb dX11_readsFloor_287 (by decide) ?_
      exact hr _ _ (upd (upd (upd v_read (93 : Int32).toNatClampNeg x1) (94 : Int32).toNatClampNeg x2) (0 : Int32).toNatClampNeg x3, v_at) _ _ _ dX11_readsFloor_291 ⟨nz1, h⟩ hw
def wp_X11_readsFloor (v_read : IA) (v_tape : IA) (v_taped : Int32) (v_at : Int32) (K : Int32 → IA → Int32 → Prop) : Prop := ∃ n137 : Nat, wp_X11_readsFloor_7 (fun (x1_3 : Int32) (x2_4 : Int32) (x3_5 : Int32) (x4_6 : Int32) (v_read_7 : IA) => ∃ n136 : Nat, wp_X11_readsFloor_38 v_tape v_taped (fun (x1_128 : Int32) (x2_129 : Int32) (x3_130 : Int32) (x4_131 : Int32) (v_read_132 : IA) (v_at_133 : Int32) => wp_X11_readsFloor_247 x1_128 x2_129 x3_130 x4_131 v_taped v_at_133 K v_read_132) K n136 x1_3 x2_4 x3_5 x4_6 v_read_7 (0 : Int32)) K n137 (0 : Int32) v_read
set_option maxHeartbeats 4000000 in
set_option maxRecDepth 100000 in
theorem c_X11_readsFloor {l : Launch} {D : va_G} {cy : ClassId} {a_this a_read a_tape : Nat} {w_refusals w_s w_image w_told w_met w_best w_kept w_squares w_far w_queue : Value} {v_read : IA} {v_isImage : Int32} {v_tape : IA} {v_taped : Int32} {v_at : Int32} {v_wrongHour : Int32} {v_wrongThing : Int32} {v_soonest : Int32} {v_bestSteps : Int32} {K : Int32 → IA → Int32 → Prop} : CtI l yX11_readsFloor wsX11_readsFloor { frames := 3, cells := 0, slots := 0, locals := 233 } 0 0 D cy [.ref a_this] (w_X11_readsFloor cy a_this a_read a_tape w_refusals w_s w_image w_told w_met w_best w_kept w_squares w_far w_queue v_read v_isImage v_tape v_taped v_at v_wrongHour v_wrongThing v_soonest v_bestSteps) (wp_X11_readsFloor v_read v_tape v_taped v_at K) (fun (u : IA × Int32) => (w_X11_readsFloor cy a_this a_read a_tape w_refusals w_s w_image w_told w_met w_best w_kept w_squares w_far w_queue u.1 v_isImage v_tape v_taped u.2 v_wrongHour v_wrongThing v_soonest v_bestSteps)) (fun (r : Int32) (u : IA × Int32) => nz r ∧ K r u.1 u.2) := by
  refine CtI.mk (cc := cX11_readsFloor) (nL := 6) (ty := .boolean) (by decide) rfl (Nat.le_of_ble_eq_true rfl) (fun r u h => h.1.nar) ?_
  intro p e s m args below meth c A Q ha hr _ h ls hl hw
  have ha : am p s m args c cX11_readsFloor 6 RX11 wsX11_readsFloor D cy A := ha
  have hx := ha.1
  have hb := ha.2.1
  have hl : lv_has ls 6 [(0, .ref a_this)] := hl
  have h : ∃ n137 : Nat, wp_X11_readsFloor_7 (fun (x1_3 : Int32) (x2_4 : Int32) (x3_5 : Int32) (x4_6 : Int32) (v_read_7 : IA) => ∃ n136 : Nat, wp_X11_readsFloor_38 v_tape v_taped (fun (x1_128 : Int32) (x2_129 : Int32) (x3_130 : Int32) (x4_131 : Int32) (v_read_132 : IA) (v_at_133 : Int32) => wp_X11_readsFloor_247 x1_128 x2_129 x3_130 x4_131 v_taped v_at_133 K v_read_132) K n136 x1_3 x2_4 x3_5 x4_6 v_read_7 (0 : Int32)) K n137 (0 : Int32) v_read := h
  refine lv_aload_n hx hb dX11_readsFloor_0 rfl (lv_at hl 0 rfl) ?_
  refine lv_iconst (v := (0 : Int32)) hx hb dX11_readsFloor_1 (by decide) ?_
  refine g_put (ci := 11) (wn := (w_X11_readsFloor cy a_this a_read a_tape w_refusals w_s w_image w_told w_met w_best w_kept w_squares w_far w_queue v_read v_isImage v_tape v_taped (0 : Int32) v_wrongHour v_wrongThing v_soonest v_bestSteps)) ha hw 0 8 rfl hi_X11_readsFloor_11 tyX11_ok nmX11 (by decide) (List.mem_of_getElem? (i := 1) rfl) rfl rfl rfl rfl (Nat.le_of_ble_eq_true rfl) rfl dX11_readsFloor_2 (fun H locs hw => ?_)
  refine lv_iconst (v := (0 : Int32)) hx hb dX11_readsFloor_5 (by decide) ?_
  refine lv_istore_n (lv' := [(1, .int (0 : Int32)), (0, .ref a_this)]) hx hb dX11_readsFloor_6 rfl hl (by decide) rfl (fun ls hl => ?_)
  obtain ⟨n9, h⟩ := h
  refine pl_X11_readsFloor_7 ha hr ?_ n9 _ _ _ _ _ h hw (lv_sub hl [1, 0] rfl)
  · intro x1_3 x2_4 x3_5 x4_6 v_read_7 H locs ls h hw hl
    try dsimp only at h
    obtain ⟨n9, h⟩ := h
    refine pl_X11_readsFloor_38 ha hr ?_ n9 _ _ _ _ _ _ _ _ _ h hw (lv_sub hl [0, 1, 2, 3, 4] rfl)
    · intro x1_128 x2_129 x3_130 x4_131 v_read_132 v_at_133 H locs ls h hw hl
      try dsimp only at h
      refine pl_X11_readsFloor_247 ha hr h hw (lv_sub hl [0, 1, 2, 3, 4] rfl)
theorem hq_X11_floor : yX11_floor.cls = RX11 ∧ yX11_floor.cls ≠ "java/lang/invoke/MethodHandle" ∧ yX11_floor.cls ≠ "java/lang/invoke/VarHandle" ∧ (parseMethodDescriptor yX11_floor.desc).map (fun d => d.parameters.length) = some 0 := by decide +kernel
def w_X11_floor (cy : ClassId) (a_this a_s a_read a_tape : Nat) (w_refusals w_image w_told w_met w_best w_kept w_squares w_far w_queue : Value) (v_s : IA) (v_read : IA) (v_isImage : Int32) (v_tape : IA) (v_taped : Int32) (v_at : Int32) (v_wrongHour : Int32) (v_wrongThing : Int32) (v_soonest : Int32) (v_bestSteps : Int32) : va_W := [(a_this, .inr (11, [w_refusals, .ref a_s, w_image, .ref a_read, .int v_isImage, .ref a_tape, w_told, .int v_taped, .int v_at, w_met, .int v_wrongHour, .int v_wrongThing, w_best, w_kept, .int v_soonest, .int v_bestSteps, w_squares, w_far, w_queue])), (a_s, .inl (cy, 120, .inl v_s)), (a_read, .inl (cy, 120, .inl v_read)), (a_tape, .inl (cy, 48, .inl v_tape))]
theorem hi_X11_floor_11 : ∀ w ∈ u_ws RX11 TX11 19, w ∈ wsX11_floor := fun _ h => List.mem_cons_of_mem _ (List.mem_append_right _ h)
def wp_X11_floor_25 (v_read : IA) (v_taped : Int32) (v_at : Int32) (K : Int32 → IA → IA → Int32 → Int32 → Prop) : Nat → Int32 → IA → Prop
  | 0, _, _ => False
  | n + 1, x2, v_s => ((120 : Int32) ≤ x2 → K (v_read (0 : Int32).toNatClampNeg) v_s v_read v_taped v_at) ∧ (¬ ((120 : Int32) ≤ x2) → vp_in x2 120 ∧ (wp_X11_floor_25 v_read v_taped v_at K n (x2 + (1 : Int32)) (upd v_s x2.toNatClampNeg (v_read x2.toNatClampNeg))))
set_option maxHeartbeats 4000000 in
set_option maxRecDepth 100000 in
theorem pl_X11_floor_25 {p : Program} {l : Launch} {e : Env} {s : State} {m : MethodId} {args : Array Value} {below : List Frame} {meth : Method} {c : Code} {A : Nat → Prop} {Q : State → Prop} {D : va_G} {cy : ClassId} {a_this a_s a_read a_tape : Nat} {w_refusals w_image w_told w_met w_best w_kept w_squares w_far w_queue : Value} {v_read : IA} {v_isImage : Int32} {v_tape : IA} {v_taped : Int32} {v_at : Int32} {v_wrongHour : Int32} {v_wrongThing : Int32} {v_soonest : Int32} {v_bestSteps : Int32} {K : Int32 → IA → IA → Int32 → Int32 → Prop} (ha : am p s m args c cX11_floor 3 RX11 wsX11_floor D cy A) (hr : rtI p l e { frames := 4, cells := 0, slots := 0, locals := 322 } s m args below meth c 0 0 Q cX11_floor D A (fun (u : IA × IA × Int32 × Int32) => (w_X11_floor cy a_this a_s a_read a_tape w_refusals w_image w_told w_met w_best w_kept w_squares w_far w_queue u.1 u.2.1 v_isImage v_tape u.2.2.1 u.2.2.2 v_wrongHour v_wrongThing v_soonest v_bestSteps)) (fun (r : Int32) (u : IA × IA × Int32 × Int32) => K r u.1 u.2.1 u.2.2.1 u.2.2.2)) : ∀ (n : Nat) (x2 : Int32) (v_s : IA) (H : Heap) (locs : List Loc) (ls : Array Slot), wp_X11_floor_25 v_read v_taped v_at K n x2 v_s → wd D A s.heap (w_X11_floor cy a_this a_s a_read a_tape w_refusals w_image w_told w_met w_best w_kept w_squares w_far w_queue v_s v_read v_isImage v_tape v_taped v_at v_wrongHour v_wrongThing v_soonest v_bestSteps) H locs → lv_has ls 3 [(0, .ref a_this), (2, .int x2)] → W p l e { frames := 4, cells := 0, slots := 0, locals := 322 } s m args below meth c H locs 0 0 Q (F0 m 25 ls []) := by
  have hx := ha.1
  have hb := ha.2.1
  intro n
  induction n with
  | zero => exact fun _ _ _ _ _ h _ _ => False.elim h
  | succ n ih =>
    intro x2 v_s H locs ls h hw hl
    have h : ((120 : Int32) ≤ x2 → K (v_read (0 : Int32).toNatClampNeg) v_s v_read v_taped v_at) ∧ (¬ ((120 : Int32) ≤ x2) → vp_in x2 120 ∧ (wp_X11_floor_25 v_read v_taped v_at K n (x2 + (1 : Int32)) (upd v_s x2.toNatClampNeg (v_read x2.toNatClampNeg)))) := h
    refine lv_iload_n hx hb dX11_floor_25 rfl (lv_at hl 1 rfl) ?_
    refine lv_bipush (v := (120 : Int32)) hx hb dX11_floor_26 (by decide) ?_
    refine lv_icmp_ge (tgt := 49) hx hb dX11_floor_28 (by decide) (fun c5 => ?_) (fun c5 => ?_)
    · have h := h.1 c5
      refine lv_aload_n hx hb dX11_floor_49 rfl (lv_at hl 0 rfl) ?_
      refine g_get (ci := 11) ha hw 0 3 rfl hi_X11_floor_11 (by decide) (List.mem_of_getElem? (i := 4) rfl) rfl rfl dX11_floor_50 ?_
      refine lv_iconst (v := (0 : Int32)) hx hb dX11_floor_53 (by decide) ?_
      refine g_ald ha hw 2 rfl (vp_in_iff.mpr (by decide)) dX11_floor_54 ?_
      exact hr _ _ (v_s, v_read, v_taped, v_at) _ _ _ dX11_floor_55 h hw
    · have h := h.2 c5
      refine lv_aload_n hx hb dX11_floor_31 rfl (lv_at hl 0 rfl) ?_
      refine g_get (ci := 11) ha hw 0 1 rfl hi_X11_floor_11 (by decide) (List.mem_of_getElem? (i := 3) rfl) rfl rfl dX11_floor_32 ?_
      refine lv_iload_n hx hb dX11_floor_35 rfl (lv_at hl 1 rfl) ?_
      refine lv_aload_n hx hb dX11_floor_36 rfl (lv_at hl 0 rfl) ?_
      refine g_get (ci := 11) ha hw 0 3 rfl hi_X11_floor_11 (by decide) (List.mem_of_getElem? (i := 4) rfl) rfl rfl dX11_floor_37 ?_
      refine lv_iload_n hx hb dX11_floor_40 rfl (lv_at hl 1 rfl) ?_
      obtain ⟨z6, h⟩ := h
      refine g_ald ha hw 2 rfl z6 dX11_floor_41 ?_
      refine g_ast (wn := (w_X11_floor cy a_this a_s a_read a_tape w_refusals w_image w_told w_met w_best w_kept w_squares w_far w_queue (upd v_s x2.toNatClampNeg (v_read x2.toNatClampNeg)) v_read v_isImage v_tape v_taped v_at v_wrongHour v_wrongThing v_soonest v_bestSteps)) ha hw 1 rfl z6 rfl dX11_floor_42 (fun H locs hw => ?_)
      refine lv_iinc (v := x2 + (1 : Int32)) (lv' := [(2, .int (x2 + (1 : Int32))), (0, .ref a_this)]) hx hb dX11_floor_43 hl (k := 1) rfl rfl (by decide) rfl (fun ls hl => ?_)
      refine lv_goto (tgt := 25) hx hb dX11_floor_46 (by decide) ?_
      exact ih _ _ _ _ _ h hw (lv_sub hl [1, 0] rfl)
def wp_X11_floor (v_s : IA) (v_read : IA) (v_tape : IA) (v_taped : Int32) (v_at : Int32) (K : Int32 → IA → IA → Int32 → Int32 → Prop) : Prop := wp_X11_readsFloor v_read v_tape v_taped v_at (fun (r1 : Int32) (v_read_2 : IA) (v_at_3 : Int32) => (r1 = 0 → K ((-20 : Int32) - v_at_3) v_s v_read_2 (0 : Int32) v_at_3) ∧ (¬ (r1 = 0) → ∃ n7 : Nat, wp_X11_floor_25 v_read_2 (0 : Int32) v_at_3 K n7 (93 : Int32) v_s))
set_option maxHeartbeats 4000000 in
set_option maxRecDepth 100000 in
theorem c_X11_floor {l : Launch} {D : va_G} {cy : ClassId} {a_this a_s a_read a_tape : Nat} {w_refusals w_image w_told w_met w_best w_kept w_squares w_far w_queue : Value} {v_s : IA} {v_read : IA} {v_isImage : Int32} {v_tape : IA} {v_taped : Int32} {v_at : Int32} {v_wrongHour : Int32} {v_wrongThing : Int32} {v_soonest : Int32} {v_bestSteps : Int32} {K : Int32 → IA → IA → Int32 → Int32 → Prop} : CtI l yX11_floor wsX11_floor { frames := 4, cells := 0, slots := 0, locals := 322 } 0 0 D cy [.ref a_this] (w_X11_floor cy a_this a_s a_read a_tape w_refusals w_image w_told w_met w_best w_kept w_squares w_far w_queue v_s v_read v_isImage v_tape v_taped v_at v_wrongHour v_wrongThing v_soonest v_bestSteps) (wp_X11_floor v_s v_read v_tape v_taped v_at K) (fun (u : IA × IA × Int32 × Int32) => (w_X11_floor cy a_this a_s a_read a_tape w_refusals w_image w_told w_met w_best w_kept w_squares w_far w_queue u.1 u.2.1 v_isImage v_tape u.2.2.1 u.2.2.2 v_wrongHour v_wrongThing v_soonest v_bestSteps)) (fun (r : Int32) (u : IA × IA × Int32 × Int32) => K r u.1 u.2.1 u.2.2.1 u.2.2.2) := by
  refine CtI.mk (cc := cX11_floor) (nL := 3) (ty := .int) (by decide) rfl (Nat.le_of_ble_eq_true rfl) (fun r u h => rfl) ?_
  intro p e s m args below meth c A Q ha hr _ h ls hl hw
  have ha : am p s m args c cX11_floor 3 RX11 wsX11_floor D cy A := ha
  have hx := ha.1
  have hb := ha.2.1
  have hl : lv_has ls 3 [(0, .ref a_this)] := hl
  have h : wp_X11_readsFloor v_read v_tape v_taped v_at (fun (r1 : Int32) (v_read_2 : IA) (v_at_3 : Int32) => (r1 = 0 → K ((-20 : Int32) - v_at_3) v_s v_read_2 (0 : Int32) v_at_3) ∧ (¬ (r1 = 0) → ∃ n7 : Nat, wp_X11_floor_25 v_read_2 (0 : Int32) v_at_3 K n7 (93 : Int32) v_s)) := h
  refine lv_aload_n hx hb dX11_floor_0 rfl (lv_at hl 0 rfl) ?_
  refine g_cvi (rm := { frames := 3, cells := 0, slots := 0, locals := 233 }) (wn := (fun (u : IA × Int32) => (w_X11_floor cy a_this a_s a_read a_tape w_refusals w_image w_told w_met w_best w_kept w_squares w_far w_queue v_s u.1 v_isImage v_tape v_taped u.2 v_wrongHour v_wrongThing v_soonest v_bestSteps))) (As := []) ha hw hl.1 (c_X11_readsFloor (cy := cy)) (cwV 0 ha.2.2.2.2.1 gX11_floor_X11_readsFloor rfl rfl rfl hq_X11_readsFloor ⟨Nat.le_of_ble_eq_true rfl, Nat.le_of_ble_eq_true rfl⟩) [0, 2, 3] [1] [1, 0, 2, 3] rfl rfl rfl rfl (by decide) rfl (fun _ => rfl) rfl rfl h rfl rfl (Nat.le_of_ble_eq_true rfl) dX11_floor_1 ⟨Nat.le_refl _, Nat.le_refl _⟩ (fun r1 u H locs h hw => ?_)
  obtain ⟨v_read_2, v_at_3⟩ := u
  have hw : wd D A s.heap (w_X11_floor cy a_this a_s a_read a_tape w_refusals w_image w_told w_met w_best w_kept w_squares w_far w_queue v_s v_read_2 v_isImage v_tape v_taped v_at_3 v_wrongHour v_wrongThing v_soonest v_bestSteps) H locs := hw
  obtain ⟨zr1, h⟩ := h
  try dsimp only at h
  refine lv_istore_n (lv' := [(1, .int r1), (0, .ref a_this)]) hx hb dX11_floor_4 rfl hl (by decide) rfl (fun ls hl => ?_)
  refine lv_aload_n hx hb dX11_floor_5 rfl (lv_at hl 1 rfl) ?_
  refine lv_iconst (v := (0 : Int32)) hx hb dX11_floor_6 (by decide) ?_
  refine g_put (ci := 11) (wn := (w_X11_floor cy a_this a_s a_read a_tape w_refusals w_image w_told w_met w_best w_kept w_squares w_far w_queue v_s v_read_2 v_isImage v_tape (0 : Int32) v_at_3 v_wrongHour v_wrongThing v_soonest v_bestSteps)) ha hw 0 7 rfl hi_X11_floor_11 tyX11_ok nmX11 (by decide) (List.mem_of_getElem? (i := 1) rfl) rfl rfl rfl rfl (Nat.le_of_ble_eq_true rfl) rfl dX11_floor_7 (fun H locs hw => ?_)
  refine lv_iload_n hx hb dX11_floor_10 rfl (lv_at hl 0 rfl) ?_
  refine lv_if_ne (tgt := 22) hx hb dX11_floor_11 (by decide) (fun c4 => ?_) (fun c4 => ?_)
  · have h := h.2 c4
    refine lv_bipush (v := (93 : Int32)) hx hb dX11_floor_22 (by decide) ?_
    refine lv_istore_n (lv' := [(2, .int (93 : Int32)), (1, .int r1), (0, .ref a_this)]) hx hb dX11_floor_24 rfl hl (by decide) rfl (fun ls hl => ?_)
    obtain ⟨n9, h⟩ := h
    refine pl_X11_floor_25 ha hr n9 _ _ _ _ _ h hw (lv_sub hl [2, 0] rfl)
  · have h := h.1 c4
    refine lv_bipush (v := (-20 : Int32)) hx hb dX11_floor_14 (by decide) ?_
    refine lv_aload_n hx hb dX11_floor_16 rfl (lv_at hl 1 rfl) ?_
    refine g_get (ci := 11) ha hw 0 8 rfl hi_X11_floor_11 (by decide) (List.mem_of_getElem? (i := 2) rfl) rfl rfl dX11_floor_17 ?_
    refine lv_isub hx hb dX11_floor_20 ?_
    exact hr _ _ (v_s, v_read_2, (0 : Int32), v_at_3) _ _ _ dX11_floor_21 h hw
theorem hq_X11_room : yX11_room.cls = RX11 ∧ yX11_room.cls ≠ "java/lang/invoke/MethodHandle" ∧ yX11_room.cls ≠ "java/lang/invoke/VarHandle" ∧ (parseMethodDescriptor yX11_room.desc).map (fun d => d.parameters.length) = some 2 := by decide +kernel
def w_X11_room (cy : ClassId) (a_this a_refusals a_s : Nat) (w_image w_read w_tape w_told w_met w_best w_kept w_squares w_far w_queue : Value) (v_refusals : IA) (v_s : IA) (v_isImage : Int32) (v_taped : Int32) (v_at : Int32) (v_wrongHour : Int32) (v_wrongThing : Int32) (v_soonest : Int32) (v_bestSteps : Int32) : va_W := [(a_this, .inr (11, [.ref a_refusals, .ref a_s, w_image, w_read, .int v_isImage, w_tape, w_told, .int v_taped, .int v_at, w_met, .int v_wrongHour, .int v_wrongThing, w_best, w_kept, .int v_soonest, .int v_bestSteps, w_squares, w_far, w_queue])), (a_refusals, .inl (cy, 7, .inl v_refusals)), (a_s, .inl (cy, 120, .inl v_s))]
theorem hi_X11_room_11 : ∀ w ∈ u_ws RX11 TX11 19, w ∈ wsX11_room := fun _ h => List.mem_cons_of_mem _ (List.mem_append_right _ h)
def wp_X11_room (x1 : Int32) (x2 : Int32) (v_refusals : IA) (v_s : IA) (K : Int32 → IA → Prop) : Prop := wp_X11_isRoom x1 v_s (fun (r1 : Int32) => (r1 = 0 → wp_X11_refuse (-1 : Int32) v_refusals (fun (r10 : Int32) (v_refusals_11 : IA) => K r10 v_refusals_11)) ∧ (¬ (r1 = 0) → wp_X11_isIn x2 (2 : Int32) (fun (r3 : Int32) => (r3 = 0 → wp_X11_refuse (-2 : Int32) v_refusals (fun (r5 : Int32) (v_refusals_6 : IA) => K r5 v_refusals_6)) ∧ (¬ (r3 = 0) → (x2 = 0 → vp_in ((9 : Int32) + x1) 120 ∧ (K (v_s ((9 : Int32) + x1).toNatClampNeg) v_refusals)) ∧ (¬ (x2 = 0) → vp_in ((15 : Int32) + x1) 120 ∧ (K (v_s ((15 : Int32) + x1).toNatClampNeg) v_refusals))))))
set_option maxHeartbeats 4000000 in
set_option maxRecDepth 100000 in
theorem c_X11_room {l : Launch} {D : va_G} {cy : ClassId} {a_this a_refusals a_s : Nat} {w_image w_read w_tape w_told w_met w_best w_kept w_squares w_far w_queue : Value} {v_refusals : IA} {v_s : IA} {v_isImage : Int32} {v_taped : Int32} {v_at : Int32} {v_wrongHour : Int32} {v_wrongThing : Int32} {v_soonest : Int32} {v_bestSteps : Int32} {x1 : Int32} {x2 : Int32} {K : Int32 → IA → Prop} : CtI l yX11_room wsX11_room { frames := 4, cells := 0, slots := 0, locals := 319 } 0 0 D cy [.ref a_this, .int x1, .int x2] (w_X11_room cy a_this a_refusals a_s w_image w_read w_tape w_told w_met w_best w_kept w_squares w_far w_queue v_refusals v_s v_isImage v_taped v_at v_wrongHour v_wrongThing v_soonest v_bestSteps) (wp_X11_room x1 x2 v_refusals v_s K) (fun (u : IA) => (w_X11_room cy a_this a_refusals a_s w_image w_read w_tape w_told w_met w_best w_kept w_squares w_far w_queue u v_s v_isImage v_taped v_at v_wrongHour v_wrongThing v_soonest v_bestSteps)) (fun (r : Int32) (u : IA) => K r u) := by
  refine CtI.mk (cc := cX11_room) (nL := 3) (ty := .int) (by decide) rfl (Nat.le_of_ble_eq_true rfl) (fun r u h => rfl) ?_
  intro p e s m args below meth c A Q ha hr _ h ls hl hw
  have ha : am p s m args c cX11_room 3 RX11 wsX11_room D cy A := ha
  have hx := ha.1
  have hb := ha.2.1
  have hl : lv_has ls 3 [(0, .ref a_this), (1, .int x1), (2, .int x2)] := hl
  have h : wp_X11_isRoom x1 v_s (fun (r1 : Int32) => (r1 = 0 → wp_X11_refuse (-1 : Int32) v_refusals (fun (r10 : Int32) (v_refusals_11 : IA) => K r10 v_refusals_11)) ∧ (¬ (r1 = 0) → wp_X11_isIn x2 (2 : Int32) (fun (r3 : Int32) => (r3 = 0 → wp_X11_refuse (-2 : Int32) v_refusals (fun (r5 : Int32) (v_refusals_6 : IA) => K r5 v_refusals_6)) ∧ (¬ (r3 = 0) → (x2 = 0 → vp_in ((9 : Int32) + x1) 120 ∧ (K (v_s ((9 : Int32) + x1).toNatClampNeg) v_refusals)) ∧ (¬ (x2 = 0) → vp_in ((15 : Int32) + x1) 120 ∧ (K (v_s ((15 : Int32) + x1).toNatClampNeg) v_refusals)))))) := h
  refine lv_aload_n hx hb dX11_room_0 rfl (lv_at hl 0 rfl) ?_
  refine lv_iload_n hx hb dX11_room_1 rfl (lv_at hl 1 rfl) ?_
  refine g_cvi (rm := { frames := 3, cells := 0, slots := 0, locals := 234 }) (wn := (fun (u : Unit) => (w_X11_room cy a_this a_refusals a_s w_image w_read w_tape w_told w_met w_best w_kept w_squares w_far w_queue v_refusals v_s v_isImage v_taped v_at v_wrongHour v_wrongThing v_soonest v_bestSteps))) (As := [.int x1]) ha hw hl.1 (c_X11_isRoom (cy := cy)) (cwV 1 ha.2.2.2.2.1 gX11_room_X11_isRoom rfl rfl rfl hq_X11_isRoom ⟨Nat.le_of_ble_eq_true rfl, Nat.le_of_ble_eq_true rfl⟩) [0, 2] [1] [1, 0, 2] rfl rfl rfl rfl (by decide) rfl (fun _ => rfl) rfl rfl h rfl rfl (Nat.le_of_ble_eq_true rfl) dX11_room_2 ⟨Nat.le_refl _, Nat.le_refl _⟩ (fun r1 u H locs h hw => ?_)
  have hw : wd D A s.heap (w_X11_room cy a_this a_refusals a_s w_image w_read w_tape w_told w_met w_best w_kept w_squares w_far w_queue v_refusals v_s v_isImage v_taped v_at v_wrongHour v_wrongThing v_soonest v_bestSteps) H locs := hw
  obtain ⟨zr1, h⟩ := h
  try dsimp only at h
  refine lv_if_ne (tgt := 16) hx hb dX11_room_5 (by decide) (fun c2 => ?_) (fun c2 => ?_)
  · have h := h.2 c2
    refine lv_iload_n hx hb dX11_room_16 rfl (lv_at hl 2 rfl) ?_
    refine lv_iconst (v := (2 : Int32)) hx hb dX11_room_17 (by decide) ?_
    refine g_csi (rm := { frames := 1, cells := 0, slots := 0, locals := 64 }) (wn := (fun (u : Unit) => (w_X11_room cy a_this a_refusals a_s w_image w_read w_tape w_told w_met w_best w_kept w_squares w_far w_queue v_refusals v_s v_isImage v_taped v_at v_wrongHour v_wrongThing v_soonest v_bestSteps))) (As := [.int x2, .int (2 : Int32)]) ha hw hl.1 (c_X11_isIn (cy := cy)) (va_cwS 2 ha.2.2.2.2.1 gX11_room_X11_isIn rfl rfl rfl hq_X11_isIn ⟨Nat.le_of_ble_eq_true rfl, Nat.le_of_ble_eq_true rfl⟩) [] [0, 1, 2] [0, 1, 2] rfl rfl rfl rfl (by decide) rfl (fun _ => rfl) h rfl rfl (Nat.le_of_ble_eq_true rfl) dX11_room_18 ⟨Nat.le_refl _, Nat.le_refl _⟩ (fun r3 u H locs h hw => ?_)
    have hw : wd D A s.heap (w_X11_room cy a_this a_refusals a_s w_image w_read w_tape w_told w_met w_best w_kept w_squares w_far w_queue v_refusals v_s v_isImage v_taped v_at v_wrongHour v_wrongThing v_soonest v_bestSteps) H locs := hw
    obtain ⟨zr3, h⟩ := h
    try dsimp only at h
    refine lv_if_eq (tgt := 45) hx hb dX11_room_21 (by decide) (fun c4 => ?_) (fun c4 => ?_)
    · have h := h.1 c4
      refine lv_aload_n hx hb dX11_room_45 rfl (lv_at hl 0 rfl) ?_
      refine lv_bipush (v := (-2 : Int32)) hx hb dX11_room_46 (by decide) ?_
      refine g_cvi (rm := { frames := 1, cells := 0, slots := 0, locals := 64 }) (wn := (fun (u : IA) => (w_X11_room cy a_this a_refusals a_s w_image w_read w_tape w_told w_met w_best w_kept w_squares w_far w_queue u v_s v_isImage v_taped v_at v_wrongHour v_wrongThing v_soonest v_bestSteps))) (As := [.int (-2 : Int32)]) ha hw hl.1 (c_X11_refuse (cy := cy)) (cwV 1 ha.2.2.2.2.1 gX11_room_X11_refuse rfl rfl rfl hq_X11_refuse ⟨Nat.le_of_ble_eq_true rfl, Nat.le_of_ble_eq_true rfl⟩) [0, 1] [2] [1, 2, 0] rfl rfl rfl rfl (by decide) rfl (fun _ => rfl) rfl rfl h rfl rfl (Nat.le_of_ble_eq_true rfl) dX11_room_48 ⟨Nat.le_refl _, Nat.le_refl _⟩ (fun r5 u H locs h hw => ?_)
      obtain ⟨v_refusals_6, rfl⟩ : ∃ z, z = u := ⟨_, rfl⟩
      have hw : wd D A s.heap (w_X11_room cy a_this a_refusals a_s w_image w_read w_tape w_told w_met w_best w_kept w_squares w_far w_queue v_refusals_6 v_s v_isImage v_taped v_at v_wrongHour v_wrongThing v_soonest v_bestSteps) H locs := hw
      try dsimp only at h
      exact hr _ _ (v_refusals_6) _ _ _ dX11_room_51 h hw
    · have h := h.2 c4
      refine lv_aload_n hx hb dX11_room_24 rfl (lv_at hl 0 rfl) ?_
      refine g_get (ci := 11) ha hw 0 1 rfl hi_X11_room_11 (by decide) (List.mem_of_getElem? (i := 1) rfl) rfl rfl dX11_room_25 ?_
      refine lv_iload_n hx hb dX11_room_28 rfl (lv_at hl 2 rfl) ?_
      refine lv_if_ne (tgt := 37) hx hb dX11_room_29 (by decide) (fun c7 => ?_) (fun c7 => ?_)
      · have h := h.2 c7
        refine lv_bipush (v := (15 : Int32)) hx hb dX11_room_37 (by decide) ?_
        refine lv_iload_n hx hb dX11_room_39 rfl (lv_at hl 1 rfl) ?_
        refine lv_iadd hx hb dX11_room_40 ?_
        obtain ⟨z8, h⟩ := h
        refine g_ald ha hw 2 rfl z8 dX11_room_41 ?_
        refine lv_goto (tgt := 51) hx hb dX11_room_42 (by decide) ?_
        exact hr _ _ (v_refusals) _ _ _ dX11_room_51 h hw
      · have h := h.1 c7
        refine lv_bipush (v := (9 : Int32)) hx hb dX11_room_32 (by decide) ?_
        refine lv_goto (tgt := 39) hx hb dX11_room_34 (by decide) ?_
        refine lv_iload_n hx hb dX11_room_39 rfl (lv_at hl 1 rfl) ?_
        refine lv_iadd hx hb dX11_room_40 ?_
        obtain ⟨z9, h⟩ := h
        refine g_ald ha hw 2 rfl z9 dX11_room_41 ?_
        refine lv_goto (tgt := 51) hx hb dX11_room_42 (by decide) ?_
        exact hr _ _ (v_refusals) _ _ _ dX11_room_51 h hw
  · have h := h.1 c2
    refine lv_aload_n hx hb dX11_room_8 rfl (lv_at hl 0 rfl) ?_
    refine lv_iconst (v := (-1 : Int32)) hx hb dX11_room_9 (by decide) ?_
    refine g_cvi (rm := { frames := 1, cells := 0, slots := 0, locals := 64 }) (wn := (fun (u : IA) => (w_X11_room cy a_this a_refusals a_s w_image w_read w_tape w_told w_met w_best w_kept w_squares w_far w_queue u v_s v_isImage v_taped v_at v_wrongHour v_wrongThing v_soonest v_bestSteps))) (As := [.int (-1 : Int32)]) ha hw hl.1 (c_X11_refuse (cy := cy)) (cwV 1 ha.2.2.2.2.1 gX11_room_X11_refuse rfl rfl rfl hq_X11_refuse ⟨Nat.le_of_ble_eq_true rfl, Nat.le_of_ble_eq_true rfl⟩) [0, 1] [2] [1, 2, 0] rfl rfl rfl rfl (by decide) rfl (fun _ => rfl) rfl rfl h rfl rfl (Nat.le_of_ble_eq_true rfl) dX11_room_10 ⟨Nat.le_refl _, Nat.le_refl _⟩ (fun r10 u H locs h hw => ?_)
    obtain ⟨v_refusals_11, rfl⟩ : ∃ z, z = u := ⟨_, rfl⟩
    have hw : wd D A s.heap (w_X11_room cy a_this a_refusals a_s w_image w_read w_tape w_told w_met w_best w_kept w_squares w_far w_queue v_refusals_11 v_s v_isImage v_taped v_at v_wrongHour v_wrongThing v_soonest v_bestSteps) H locs := hw
    try dsimp only at h
    refine lv_goto (tgt := 51) hx hb dX11_room_13 (by decide) ?_
    exact hr _ _ (v_refusals_11) _ _ _ dX11_room_51 h hw
theorem hq_X11_door : yX11_door.cls = RX11 ∧ yX11_door.cls ≠ "java/lang/invoke/MethodHandle" ∧ yX11_door.cls ≠ "java/lang/invoke/VarHandle" ∧ (parseMethodDescriptor yX11_door.desc).map (fun d => d.parameters.length) = some 2 := by decide +kernel
def w_X11_door (cy : ClassId) (a_this a_refusals a_s : Nat) (w_image w_read w_tape w_told w_met w_best w_kept w_squares w_far w_queue : Value) (v_refusals : IA) (v_s : IA) (v_isImage : Int32) (v_taped : Int32) (v_at : Int32) (v_wrongHour : Int32) (v_wrongThing : Int32) (v_soonest : Int32) (v_bestSteps : Int32) : va_W := [(a_this, .inr (11, [.ref a_refusals, .ref a_s, w_image, w_read, .int v_isImage, w_tape, w_told, .int v_taped, .int v_at, w_met, .int v_wrongHour, .int v_wrongThing, w_best, w_kept, .int v_soonest, .int v_bestSteps, w_squares, w_far, w_queue])), (a_refusals, .inl (cy, 7, .inl v_refusals)), (a_s, .inl (cy, 120, .inl v_s))]
theorem hi_X11_door_11 : ∀ w ∈ u_ws RX11 TX11 19, w ∈ wsX11_door := fun _ h => List.mem_cons_of_mem _ (List.mem_append_right _ h)
def wp_X11_door_16 (K : Int32 → IA → Prop) (v_refusals : IA) : Prop := wp_X11_refuse (-1 : Int32) v_refusals (fun (r3 : Int32) (v_refusals_4 : IA) => K r3 v_refusals_4)
set_option maxHeartbeats 4000000 in
set_option maxRecDepth 100000 in
theorem pl_X11_door_16 {p : Program} {l : Launch} {e : Env} {s : State} {m : MethodId} {args : Array Value} {below : List Frame} {meth : Method} {c : Code} {A : Nat → Prop} {Q : State → Prop} {D : va_G} {cy : ClassId} {a_this a_refusals a_s : Nat} {w_image w_read w_tape w_told w_met w_best w_kept w_squares w_far w_queue : Value} {v_s : IA} {v_isImage : Int32} {v_taped : Int32} {v_at : Int32} {v_wrongHour : Int32} {v_wrongThing : Int32} {v_soonest : Int32} {v_bestSteps : Int32} {K : Int32 → IA → Prop} (ha : am p s m args c cX11_door 3 RX11 wsX11_door D cy A) (hr : rtI p l e { frames := 3, cells := 0, slots := 0, locals := 234 } s m args below meth c 0 0 Q cX11_door D A (fun (u : IA) => (w_X11_door cy a_this a_refusals a_s w_image w_read w_tape w_told w_met w_best w_kept w_squares w_far w_queue u v_s v_isImage v_taped v_at v_wrongHour v_wrongThing v_soonest v_bestSteps)) (fun (r : Int32) (u : IA) => K r u)) {v_refusals : IA} {H : Heap} {locs : List Loc} {ls : Array Slot} : wp_X11_door_16 K v_refusals → wd D A s.heap (w_X11_door cy a_this a_refusals a_s w_image w_read w_tape w_told w_met w_best w_kept w_squares w_far w_queue v_refusals v_s v_isImage v_taped v_at v_wrongHour v_wrongThing v_soonest v_bestSteps) H locs → lv_has ls 3 [(0, .ref a_this)] → W p l e { frames := 3, cells := 0, slots := 0, locals := 234 } s m args below meth c H locs 0 0 Q (F0 m 16 ls []) := by
  have hx := ha.1
  have hb := ha.2.1
  intro h hw hl
  have h : wp_X11_refuse (-1 : Int32) v_refusals (fun (r3 : Int32) (v_refusals_4 : IA) => K r3 v_refusals_4) := h
  refine lv_aload_n hx hb dX11_door_16 rfl (lv_at hl 0 rfl) ?_
  refine lv_iconst (v := (-1 : Int32)) hx hb dX11_door_17 (by decide) ?_
  refine g_cvi (rm := { frames := 1, cells := 0, slots := 0, locals := 64 }) (wn := (fun (u : IA) => (w_X11_door cy a_this a_refusals a_s w_image w_read w_tape w_told w_met w_best w_kept w_squares w_far w_queue u v_s v_isImage v_taped v_at v_wrongHour v_wrongThing v_soonest v_bestSteps))) (As := [.int (-1 : Int32)]) ha hw hl.1 (c_X11_refuse (cy := cy)) (cwV 1 ha.2.2.2.2.1 gX11_door_X11_refuse rfl rfl rfl hq_X11_refuse ⟨Nat.le_of_ble_eq_true rfl, Nat.le_of_ble_eq_true rfl⟩) [0, 1] [2] [1, 2, 0] rfl rfl rfl rfl (by decide) rfl (fun _ => rfl) rfl rfl h rfl rfl (Nat.le_of_ble_eq_true rfl) dX11_door_18 ⟨Nat.le_refl _, Nat.le_refl _⟩ (fun r3 u H locs h hw => ?_)
  obtain ⟨v_refusals_4, rfl⟩ : ∃ z, z = u := ⟨_, rfl⟩
  have hw : wd D A s.heap (w_X11_door cy a_this a_refusals a_s w_image w_read w_tape w_told w_met w_best w_kept w_squares w_far w_queue v_refusals_4 v_s v_isImage v_taped v_at v_wrongHour v_wrongThing v_soonest v_bestSteps) H locs := hw
  try dsimp only at h
  refine lv_goto (tgt := 41) hx hb dX11_door_21 (by decide) ?_
  exact hr _ _ (v_refusals_4) _ _ _ dX11_door_41 h hw
def wp_X11_door (x1 : Int32) (x2 : Int32) (v_refusals : IA) (v_s : IA) (K : Int32 → IA → Prop) : Prop := wp_X11_isPlace x1 v_s (fun (r1 : Int32) => (r1 = 0 → wp_X11_door_16 K v_refusals) ∧ (¬ (r1 = 0) → wp_X11_isPlace x2 v_s (fun (r5 : Int32) => (r5 = 0 → wp_X11_door_16 K v_refusals) ∧ (¬ (r5 = 0) → wp_X11_isDoor x1 x2 (120) v_s (fun (r7 : Int32) => (r7 = 0 → K (0 : Int32) v_refusals) ∧ (¬ (r7 = 0) → K (1 : Int32) v_refusals))))))
set_option maxHeartbeats 4000000 in
set_option maxRecDepth 100000 in
theorem c_X11_door {l : Launch} {D : va_G} {cy : ClassId} {a_this a_refusals a_s : Nat} {w_image w_read w_tape w_told w_met w_best w_kept w_squares w_far w_queue : Value} {v_refusals : IA} {v_s : IA} {v_isImage : Int32} {v_taped : Int32} {v_at : Int32} {v_wrongHour : Int32} {v_wrongThing : Int32} {v_soonest : Int32} {v_bestSteps : Int32} {x1 : Int32} {x2 : Int32} {K : Int32 → IA → Prop} : CtI l yX11_door wsX11_door { frames := 3, cells := 0, slots := 0, locals := 234 } 0 0 D cy [.ref a_this, .int x1, .int x2] (w_X11_door cy a_this a_refusals a_s w_image w_read w_tape w_told w_met w_best w_kept w_squares w_far w_queue v_refusals v_s v_isImage v_taped v_at v_wrongHour v_wrongThing v_soonest v_bestSteps) (wp_X11_door x1 x2 v_refusals v_s K) (fun (u : IA) => (w_X11_door cy a_this a_refusals a_s w_image w_read w_tape w_told w_met w_best w_kept w_squares w_far w_queue u v_s v_isImage v_taped v_at v_wrongHour v_wrongThing v_soonest v_bestSteps)) (fun (r : Int32) (u : IA) => K r u) := by
  refine CtI.mk (cc := cX11_door) (nL := 3) (ty := .int) (by decide) rfl (Nat.le_of_ble_eq_true rfl) (fun r u h => rfl) ?_
  intro p e s m args below meth c A Q ha hr _ h ls hl hw
  have ha : am p s m args c cX11_door 3 RX11 wsX11_door D cy A := ha
  have hx := ha.1
  have hb := ha.2.1
  have hl : lv_has ls 3 [(0, .ref a_this), (1, .int x1), (2, .int x2)] := hl
  have h : wp_X11_isPlace x1 v_s (fun (r1 : Int32) => (r1 = 0 → wp_X11_door_16 K v_refusals) ∧ (¬ (r1 = 0) → wp_X11_isPlace x2 v_s (fun (r5 : Int32) => (r5 = 0 → wp_X11_door_16 K v_refusals) ∧ (¬ (r5 = 0) → wp_X11_isDoor x1 x2 (120) v_s (fun (r7 : Int32) => (r7 = 0 → K (0 : Int32) v_refusals) ∧ (¬ (r7 = 0) → K (1 : Int32) v_refusals)))))) := h
  refine lv_aload_n hx hb dX11_door_0 rfl (lv_at hl 0 rfl) ?_
  refine lv_iload_n hx hb dX11_door_1 rfl (lv_at hl 1 rfl) ?_
  refine g_cvi (rm := { frames := 2, cells := 0, slots := 0, locals := 149 }) (wn := (fun (u : Unit) => (w_X11_door cy a_this a_refusals a_s w_image w_read w_tape w_told w_met w_best w_kept w_squares w_far w_queue v_refusals v_s v_isImage v_taped v_at v_wrongHour v_wrongThing v_soonest v_bestSteps))) (As := [.int x1]) ha hw hl.1 (c_X11_isPlace (cy := cy)) (cwV 1 ha.2.2.2.2.1 gX11_door_X11_isPlace rfl rfl rfl hq_X11_isPlace ⟨Nat.le_of_ble_eq_true rfl, Nat.le_of_ble_eq_true rfl⟩) [0, 2] [1] [1, 0, 2] rfl rfl rfl rfl (by decide) rfl (fun _ => rfl) rfl rfl h rfl rfl (Nat.le_of_ble_eq_true rfl) dX11_door_2 ⟨Nat.le_refl _, Nat.le_refl _⟩ (fun r1 u H locs h hw => ?_)
  have hw : wd D A s.heap (w_X11_door cy a_this a_refusals a_s w_image w_read w_tape w_told w_met w_best w_kept w_squares w_far w_queue v_refusals v_s v_isImage v_taped v_at v_wrongHour v_wrongThing v_soonest v_bestSteps) H locs := hw
  obtain ⟨zr1, h⟩ := h
  try dsimp only at h
  refine lv_if_eq (tgt := 16) hx hb dX11_door_5 (by decide) (fun c2 => ?_) (fun c2 => ?_)
  · have h := h.1 c2
    refine pl_X11_door_16 ha hr h hw (lv_sub hl [0] rfl)
  · have h := h.2 c2
    refine lv_aload_n hx hb dX11_door_8 rfl (lv_at hl 0 rfl) ?_
    refine lv_iload_n hx hb dX11_door_9 rfl (lv_at hl 2 rfl) ?_
    refine g_cvi (rm := { frames := 2, cells := 0, slots := 0, locals := 149 }) (wn := (fun (u : Unit) => (w_X11_door cy a_this a_refusals a_s w_image w_read w_tape w_told w_met w_best w_kept w_squares w_far w_queue v_refusals v_s v_isImage v_taped v_at v_wrongHour v_wrongThing v_soonest v_bestSteps))) (As := [.int x2]) ha hw hl.1 (c_X11_isPlace (cy := cy)) (cwV 1 ha.2.2.2.2.1 gX11_door_X11_isPlace rfl rfl rfl hq_X11_isPlace ⟨Nat.le_of_ble_eq_true rfl, Nat.le_of_ble_eq_true rfl⟩) [0, 2] [1] [1, 0, 2] rfl rfl rfl rfl (by decide) rfl (fun _ => rfl) rfl rfl h rfl rfl (Nat.le_of_ble_eq_true rfl) dX11_door_10 ⟨Nat.le_refl _, Nat.le_refl _⟩ (fun r5 u H locs h hw => ?_)
    have hw : wd D A s.heap (w_X11_door cy a_this a_refusals a_s w_image w_read w_tape w_told w_met w_best w_kept w_squares w_far w_queue v_refusals v_s v_isImage v_taped v_at v_wrongHour v_wrongThing v_soonest v_bestSteps) H locs := hw
    obtain ⟨zr5, h⟩ := h
    try dsimp only at h
    refine lv_if_ne (tgt := 24) hx hb dX11_door_13 (by decide) (fun c6 => ?_) (fun c6 => ?_)
    · have h := h.2 c6
      refine lv_aload_n hx hb dX11_door_24 rfl (lv_at hl 0 rfl) ?_
      refine g_get (ci := 11) ha hw 0 1 rfl hi_X11_door_11 (by decide) (List.mem_of_getElem? (i := 1) rfl) rfl rfl dX11_door_25 ?_
      refine lv_iload_n hx hb dX11_door_28 rfl (lv_at hl 1 rfl) ?_
      refine lv_iload_n hx hb dX11_door_29 rfl (lv_at hl 2 rfl) ?_
      refine g_csi (rm := { frames := 1, cells := 0, slots := 0, locals := 64 }) (wn := (fun (u : Unit) => (w_X11_door cy a_this a_refusals a_s w_image w_read w_tape w_told w_met w_best w_kept w_squares w_far w_queue v_refusals v_s v_isImage v_taped v_at v_wrongHour v_wrongThing v_soonest v_bestSteps))) (As := [.ref a_s, .int x1, .int x2]) ha hw hl.1 (c_X11_isDoor (cy := cy)) (va_cwS 3 ha.2.2.2.2.1 gX11_door_X11_isDoor rfl rfl rfl hq_X11_isDoor ⟨Nat.le_of_ble_eq_true rfl, Nat.le_of_ble_eq_true rfl⟩) [2] [0, 1] [0, 1, 2] rfl rfl rfl rfl (by decide) rfl (fun _ => rfl) h rfl rfl (Nat.le_of_ble_eq_true rfl) dX11_door_30 ⟨Nat.le_refl _, Nat.le_refl _⟩ (fun r7 u H locs h hw => ?_)
      have hw : wd D A s.heap (w_X11_door cy a_this a_refusals a_s w_image w_read w_tape w_told w_met w_best w_kept w_squares w_far w_queue v_refusals v_s v_isImage v_taped v_at v_wrongHour v_wrongThing v_soonest v_bestSteps) H locs := hw
      obtain ⟨zr7, h⟩ := h
      try dsimp only at h
      refine lv_if_eq (tgt := 40) hx hb dX11_door_33 (by decide) (fun c8 => ?_) (fun c8 => ?_)
      · have h := h.1 c8
        refine lv_iconst (v := (0 : Int32)) hx hb dX11_door_40 (by decide) ?_
        exact hr _ _ (v_refusals) _ _ _ dX11_door_41 h hw
      · have h := h.2 c8
        refine lv_iconst (v := (1 : Int32)) hx hb dX11_door_36 (by decide) ?_
        refine lv_goto (tgt := 41) hx hb dX11_door_37 (by decide) ?_
        exact hr _ _ (v_refusals) _ _ _ dX11_door_41 h hw
    · have h := h.1 c6
      refine pl_X11_door_16 ha hr h hw (lv_sub hl [0] rfl)
theorem hq_X11_need : yX11_need.cls = RX11 ∧ yX11_need.cls ≠ "java/lang/invoke/MethodHandle" ∧ yX11_need.cls ≠ "java/lang/invoke/VarHandle" ∧ (parseMethodDescriptor yX11_need.desc).map (fun d => d.parameters.length) = some 2 := by decide +kernel
def w_X11_need (cy : ClassId) (a_this a_refusals a_s : Nat) (w_image w_read w_tape w_told w_met w_best w_kept w_squares w_far w_queue : Value) (v_refusals : IA) (v_s : IA) (v_isImage : Int32) (v_taped : Int32) (v_at : Int32) (v_wrongHour : Int32) (v_wrongThing : Int32) (v_soonest : Int32) (v_bestSteps : Int32) : va_W := [(a_this, .inr (11, [.ref a_refusals, .ref a_s, w_image, w_read, .int v_isImage, w_tape, w_told, .int v_taped, .int v_at, w_met, .int v_wrongHour, .int v_wrongThing, w_best, w_kept, .int v_soonest, .int v_bestSteps, w_squares, w_far, w_queue])), (a_refusals, .inl (cy, 7, .inl v_refusals)), (a_s, .inl (cy, 120, .inl v_s))]
theorem hi_X11_need_11 : ∀ w ∈ u_ws RX11 TX11 19, w ∈ wsX11_need := fun _ h => List.mem_cons_of_mem _ (List.mem_append_right _ h)
def wp_X11_need (x1 : Int32) (x2 : Int32) (v_refusals : IA) (v_s : IA) (K : Int32 → IA → Prop) : Prop := wp_X11_isIn x1 (v_s (2 : Int32).toNatClampNeg) (fun (r1 : Int32) => (r1 = 0 → wp_X11_refuse (-1 : Int32) v_refusals (fun (r8 : Int32) (v_refusals_9 : IA) => K r8 v_refusals_9)) ∧ (¬ (r1 = 0) → wp_X11_isIn x2 (4 : Int32) (fun (r3 : Int32) => (r3 = 0 → wp_X11_refuse (-2 : Int32) v_refusals (fun (r5 : Int32) (v_refusals_6 : IA) => K r5 v_refusals_6)) ∧ (¬ (r3 = 0) → vp_in (((45 : Int32) + ((4 : Int32) * x1)) + x2) 120 ∧ (K (v_s (((45 : Int32) + ((4 : Int32) * x1)) + x2).toNatClampNeg) v_refusals)))))
set_option maxHeartbeats 4000000 in
set_option maxRecDepth 100000 in
theorem c_X11_need {l : Launch} {D : va_G} {cy : ClassId} {a_this a_refusals a_s : Nat} {w_image w_read w_tape w_told w_met w_best w_kept w_squares w_far w_queue : Value} {v_refusals : IA} {v_s : IA} {v_isImage : Int32} {v_taped : Int32} {v_at : Int32} {v_wrongHour : Int32} {v_wrongThing : Int32} {v_soonest : Int32} {v_bestSteps : Int32} {x1 : Int32} {x2 : Int32} {K : Int32 → IA → Prop} : CtI l yX11_need wsX11_need { frames := 2, cells := 0, slots := 0, locals := 149 } 0 0 D cy [.ref a_this, .int x1, .int x2] (w_X11_need cy a_this a_refusals a_s w_image w_read w_tape w_told w_met w_best w_kept w_squares w_far w_queue v_refusals v_s v_isImage v_taped v_at v_wrongHour v_wrongThing v_soonest v_bestSteps) (wp_X11_need x1 x2 v_refusals v_s K) (fun (u : IA) => (w_X11_need cy a_this a_refusals a_s w_image w_read w_tape w_told w_met w_best w_kept w_squares w_far w_queue u v_s v_isImage v_taped v_at v_wrongHour v_wrongThing v_soonest v_bestSteps)) (fun (r : Int32) (u : IA) => K r u) := by
  refine CtI.mk (cc := cX11_need) (nL := 3) (ty := .int) (by decide) rfl (Nat.le_of_ble_eq_true rfl) (fun r u h => rfl) ?_
  intro p e s m args below meth c A Q ha hr _ h ls hl hw
  have ha : am p s m args c cX11_need 3 RX11 wsX11_need D cy A := ha
  have hx := ha.1
  have hb := ha.2.1
  have hl : lv_has ls 3 [(0, .ref a_this), (1, .int x1), (2, .int x2)] := hl
  have h : wp_X11_isIn x1 (v_s (2 : Int32).toNatClampNeg) (fun (r1 : Int32) => (r1 = 0 → wp_X11_refuse (-1 : Int32) v_refusals (fun (r8 : Int32) (v_refusals_9 : IA) => K r8 v_refusals_9)) ∧ (¬ (r1 = 0) → wp_X11_isIn x2 (4 : Int32) (fun (r3 : Int32) => (r3 = 0 → wp_X11_refuse (-2 : Int32) v_refusals (fun (r5 : Int32) (v_refusals_6 : IA) => K r5 v_refusals_6)) ∧ (¬ (r3 = 0) → vp_in (((45 : Int32) + ((4 : Int32) * x1)) + x2) 120 ∧ (K (v_s (((45 : Int32) + ((4 : Int32) * x1)) + x2).toNatClampNeg) v_refusals))))) := h
  refine lv_iload_n hx hb dX11_need_0 rfl (lv_at hl 1 rfl) ?_
  refine lv_aload_n hx hb dX11_need_1 rfl (lv_at hl 0 rfl) ?_
  refine g_get (ci := 11) ha hw 0 1 rfl hi_X11_need_11 (by decide) (List.mem_of_getElem? (i := 1) rfl) rfl rfl dX11_need_2 ?_
  refine lv_iconst (v := (2 : Int32)) hx hb dX11_need_5 (by decide) ?_
  refine g_ald ha hw 2 rfl (vp_in_iff.mpr (by decide)) dX11_need_6 ?_
  refine g_csi (rm := { frames := 1, cells := 0, slots := 0, locals := 64 }) (wn := (fun (u : Unit) => (w_X11_need cy a_this a_refusals a_s w_image w_read w_tape w_told w_met w_best w_kept w_squares w_far w_queue v_refusals v_s v_isImage v_taped v_at v_wrongHour v_wrongThing v_soonest v_bestSteps))) (As := [.int x1, .int (v_s (2 : Int32).toNatClampNeg)]) ha hw hl.1 (c_X11_isIn (cy := cy)) (va_cwS 2 ha.2.2.2.2.1 gX11_need_X11_isIn rfl rfl rfl hq_X11_isIn ⟨Nat.le_of_ble_eq_true rfl, Nat.le_of_ble_eq_true rfl⟩) [] [0, 1, 2] [0, 1, 2] rfl rfl rfl rfl (by decide) rfl (fun _ => rfl) h rfl rfl (Nat.le_of_ble_eq_true rfl) dX11_need_7 ⟨Nat.le_refl _, Nat.le_refl _⟩ (fun r1 u H locs h hw => ?_)
  have hw : wd D A s.heap (w_X11_need cy a_this a_refusals a_s w_image w_read w_tape w_told w_met w_best w_kept w_squares w_far w_queue v_refusals v_s v_isImage v_taped v_at v_wrongHour v_wrongThing v_soonest v_bestSteps) H locs := hw
  obtain ⟨zr1, h⟩ := h
  try dsimp only at h
  refine lv_if_ne (tgt := 21) hx hb dX11_need_10 (by decide) (fun c2 => ?_) (fun c2 => ?_)
  · have h := h.2 c2
    refine lv_iload_n hx hb dX11_need_21 rfl (lv_at hl 2 rfl) ?_
    refine lv_iconst (v := (4 : Int32)) hx hb dX11_need_22 (by decide) ?_
    refine g_csi (rm := { frames := 1, cells := 0, slots := 0, locals := 64 }) (wn := (fun (u : Unit) => (w_X11_need cy a_this a_refusals a_s w_image w_read w_tape w_told w_met w_best w_kept w_squares w_far w_queue v_refusals v_s v_isImage v_taped v_at v_wrongHour v_wrongThing v_soonest v_bestSteps))) (As := [.int x2, .int (4 : Int32)]) ha hw hl.1 (c_X11_isIn (cy := cy)) (va_cwS 2 ha.2.2.2.2.1 gX11_need_X11_isIn rfl rfl rfl hq_X11_isIn ⟨Nat.le_of_ble_eq_true rfl, Nat.le_of_ble_eq_true rfl⟩) [] [0, 1, 2] [0, 1, 2] rfl rfl rfl rfl (by decide) rfl (fun _ => rfl) h rfl rfl (Nat.le_of_ble_eq_true rfl) dX11_need_23 ⟨Nat.le_refl _, Nat.le_refl _⟩ (fun r3 u H locs h hw => ?_)
    have hw : wd D A s.heap (w_X11_need cy a_this a_refusals a_s w_image w_read w_tape w_told w_met w_best w_kept w_squares w_far w_queue v_refusals v_s v_isImage v_taped v_at v_wrongHour v_wrongThing v_soonest v_bestSteps) H locs := hw
    obtain ⟨zr3, h⟩ := h
    try dsimp only at h
    refine lv_if_eq (tgt := 45) hx hb dX11_need_26 (by decide) (fun c4 => ?_) (fun c4 => ?_)
    · have h := h.1 c4
      refine lv_aload_n hx hb dX11_need_45 rfl (lv_at hl 0 rfl) ?_
      refine lv_bipush (v := (-2 : Int32)) hx hb dX11_need_46 (by decide) ?_
      refine g_cvi (rm := { frames := 1, cells := 0, slots := 0, locals := 64 }) (wn := (fun (u : IA) => (w_X11_need cy a_this a_refusals a_s w_image w_read w_tape w_told w_met w_best w_kept w_squares w_far w_queue u v_s v_isImage v_taped v_at v_wrongHour v_wrongThing v_soonest v_bestSteps))) (As := [.int (-2 : Int32)]) ha hw hl.1 (c_X11_refuse (cy := cy)) (cwV 1 ha.2.2.2.2.1 gX11_need_X11_refuse rfl rfl rfl hq_X11_refuse ⟨Nat.le_of_ble_eq_true rfl, Nat.le_of_ble_eq_true rfl⟩) [0, 1] [2] [1, 2, 0] rfl rfl rfl rfl (by decide) rfl (fun _ => rfl) rfl rfl h rfl rfl (Nat.le_of_ble_eq_true rfl) dX11_need_48 ⟨Nat.le_refl _, Nat.le_refl _⟩ (fun r5 u H locs h hw => ?_)
      obtain ⟨v_refusals_6, rfl⟩ : ∃ z, z = u := ⟨_, rfl⟩
      have hw : wd D A s.heap (w_X11_need cy a_this a_refusals a_s w_image w_read w_tape w_told w_met w_best w_kept w_squares w_far w_queue v_refusals_6 v_s v_isImage v_taped v_at v_wrongHour v_wrongThing v_soonest v_bestSteps) H locs := hw
      try dsimp only at h
      exact hr _ _ (v_refusals_6) _ _ _ dX11_need_51 h hw
    · have h := h.2 c4
      refine lv_aload_n hx hb dX11_need_29 rfl (lv_at hl 0 rfl) ?_
      refine g_get (ci := 11) ha hw 0 1 rfl hi_X11_need_11 (by decide) (List.mem_of_getElem? (i := 1) rfl) rfl rfl dX11_need_30 ?_
      refine lv_bipush (v := (45 : Int32)) hx hb dX11_need_33 (by decide) ?_
      refine lv_iconst (v := (4 : Int32)) hx hb dX11_need_35 (by decide) ?_
      refine lv_iload_n hx hb dX11_need_36 rfl (lv_at hl 1 rfl) ?_
      refine lv_imul hx hb dX11_need_37 ?_
      refine lv_iadd hx hb dX11_need_38 ?_
      refine lv_iload_n hx hb dX11_need_39 rfl (lv_at hl 2 rfl) ?_
      refine lv_iadd hx hb dX11_need_40 ?_
      obtain ⟨z7, h⟩ := h
      refine g_ald ha hw 2 rfl z7 dX11_need_41 ?_
      refine lv_goto (tgt := 51) hx hb dX11_need_42 (by decide) ?_
      exact hr _ _ (v_refusals) _ _ _ dX11_need_51 h hw
  · have h := h.1 c2
    refine lv_aload_n hx hb dX11_need_13 rfl (lv_at hl 0 rfl) ?_
    refine lv_iconst (v := (-1 : Int32)) hx hb dX11_need_14 (by decide) ?_
    refine g_cvi (rm := { frames := 1, cells := 0, slots := 0, locals := 64 }) (wn := (fun (u : IA) => (w_X11_need cy a_this a_refusals a_s w_image w_read w_tape w_told w_met w_best w_kept w_squares w_far w_queue u v_s v_isImage v_taped v_at v_wrongHour v_wrongThing v_soonest v_bestSteps))) (As := [.int (-1 : Int32)]) ha hw hl.1 (c_X11_refuse (cy := cy)) (cwV 1 ha.2.2.2.2.1 gX11_need_X11_refuse rfl rfl rfl hq_X11_refuse ⟨Nat.le_of_ble_eq_true rfl, Nat.le_of_ble_eq_true rfl⟩) [0, 1] [2] [1, 2, 0] rfl rfl rfl rfl (by decide) rfl (fun _ => rfl) rfl rfl h rfl rfl (Nat.le_of_ble_eq_true rfl) dX11_need_15 ⟨Nat.le_refl _, Nat.le_refl _⟩ (fun r8 u H locs h hw => ?_)
    obtain ⟨v_refusals_9, rfl⟩ : ∃ z, z = u := ⟨_, rfl⟩
    have hw : wd D A s.heap (w_X11_need cy a_this a_refusals a_s w_image w_read w_tape w_told w_met w_best w_kept w_squares w_far w_queue v_refusals_9 v_s v_isImage v_taped v_at v_wrongHour v_wrongThing v_soonest v_bestSteps) H locs := hw
    try dsimp only at h
    refine lv_goto (tgt := 51) hx hb dX11_need_18 (by decide) ?_
    exact hr _ _ (v_refusals_9) _ _ _ dX11_need_51 h hw
theorem hq_X11_set : yX11_set.cls = RX11 ∧ yX11_set.cls ≠ "java/lang/invoke/MethodHandle" ∧ yX11_set.cls ≠ "java/lang/invoke/VarHandle" ∧ (parseMethodDescriptor yX11_set.desc).map (fun d => d.parameters.length) = some 2 := by decide +kernel
def w_X11_set (cy : ClassId) (a_this a_refusals a_s : Nat) (w_image w_read w_tape w_told w_met w_best w_kept w_squares w_far w_queue : Value) (v_refusals : IA) (v_s : IA) (v_isImage : Int32) (v_taped : Int32) (v_at : Int32) (v_wrongHour : Int32) (v_wrongThing : Int32) (v_soonest : Int32) (v_bestSteps : Int32) : va_W := [(a_this, .inr (11, [.ref a_refusals, .ref a_s, w_image, w_read, .int v_isImage, w_tape, w_told, .int v_taped, .int v_at, w_met, .int v_wrongHour, .int v_wrongThing, w_best, w_kept, .int v_soonest, .int v_bestSteps, w_squares, w_far, w_queue])), (a_refusals, .inl (cy, 7, .inl v_refusals)), (a_s, .inl (cy, 120, .inl v_s))]
theorem hi_X11_set_11 : ∀ w ∈ u_ws RX11 TX11 19, w ∈ wsX11_set := fun _ h => List.mem_cons_of_mem _ (List.mem_append_right _ h)
def wp_X11_set_47 (x1 : Int32) (x2 : Int32) (K : Int32 → IA → IA → Prop) (v_refusals : IA) (v_s : IA) (t0 : Int32) (t1 : Int32) (t2 : Int32) : Prop := wp_X11_within t2 t1 t0 (fun (r6 : Int32) => (r6 = 0 → vp_in ((4 : Int32) + x1) 120 ∧ (∀ x4_9 : Int32, x4_9 = v_s ((4 : Int32) + x1).toNatClampNeg → K x4_9 v_refusals (upd v_s ((4 : Int32) + x1).toNatClampNeg x2))) ∧ (¬ (r6 = 0) → wp_X11_refuse r6 v_refusals (fun (r10 : Int32) (v_refusals_11 : IA) => K r10 v_refusals_11 v_s)))
set_option maxHeartbeats 4000000 in
set_option maxRecDepth 100000 in
theorem pl_X11_set_47 {p : Program} {l : Launch} {e : Env} {s : State} {m : MethodId} {args : Array Value} {below : List Frame} {meth : Method} {c : Code} {A : Nat → Prop} {Q : State → Prop} {D : va_G} {cy : ClassId} {a_this a_refusals a_s : Nat} {w_image w_read w_tape w_told w_met w_best w_kept w_squares w_far w_queue : Value} {v_isImage : Int32} {v_taped : Int32} {v_at : Int32} {v_wrongHour : Int32} {v_wrongThing : Int32} {v_soonest : Int32} {v_bestSteps : Int32} {x1 : Int32} {x2 : Int32} {K : Int32 → IA → IA → Prop} (ha : am p s m args c cX11_set 5 RX11 wsX11_set D cy A) (hr : rtI p l e { frames := 2, cells := 0, slots := 0, locals := 150 } s m args below meth c 0 0 Q cX11_set D A (fun (u : IA × IA) => (w_X11_set cy a_this a_refusals a_s w_image w_read w_tape w_told w_met w_best w_kept w_squares w_far w_queue u.1 u.2 v_isImage v_taped v_at v_wrongHour v_wrongThing v_soonest v_bestSteps)) (fun (r : Int32) (u : IA × IA) => K r u.1 u.2)) {v_refusals : IA} {v_s : IA} {t0 : Int32} {t1 : Int32} {t2 : Int32} {H : Heap} {locs : List Loc} {ls : Array Slot} : wp_X11_set_47 x1 x2 K v_refusals v_s t0 t1 t2 → wd D A s.heap (w_X11_set cy a_this a_refusals a_s w_image w_read w_tape w_told w_met w_best w_kept w_squares w_far w_queue v_refusals v_s v_isImage v_taped v_at v_wrongHour v_wrongThing v_soonest v_bestSteps) H locs → lv_has ls 5 [(0, .ref a_this), (1, .int x1), (2, .int x2)] → W p l e { frames := 2, cells := 0, slots := 0, locals := 150 } s m args below meth c H locs 0 0 Q (F0 m 47 ls [.int t0, .int t1, .int t2]) := by
  have hx := ha.1
  have hb := ha.2.1
  intro h hw hl
  have h : wp_X11_within t2 t1 t0 (fun (r6 : Int32) => (r6 = 0 → vp_in ((4 : Int32) + x1) 120 ∧ (∀ x4_9 : Int32, x4_9 = v_s ((4 : Int32) + x1).toNatClampNeg → K x4_9 v_refusals (upd v_s ((4 : Int32) + x1).toNatClampNeg x2))) ∧ (¬ (r6 = 0) → wp_X11_refuse r6 v_refusals (fun (r10 : Int32) (v_refusals_11 : IA) => K r10 v_refusals_11 v_s))) := h
  refine g_csi (rm := { frames := 1, cells := 0, slots := 0, locals := 64 }) (wn := (fun (u : Unit) => (w_X11_set cy a_this a_refusals a_s w_image w_read w_tape w_told w_met w_best w_kept w_squares w_far w_queue v_refusals v_s v_isImage v_taped v_at v_wrongHour v_wrongThing v_soonest v_bestSteps))) (As := [.int t2, .int t1, .int t0]) ha hw hl.1 (c_X11_within (cy := cy)) (va_cwS 3 ha.2.2.2.2.1 gX11_set_X11_within rfl rfl rfl hq_X11_within ⟨Nat.le_of_ble_eq_true rfl, Nat.le_of_ble_eq_true rfl⟩) [] [0, 1, 2] [0, 1, 2] rfl rfl rfl rfl (by decide) rfl (fun _ => rfl) h rfl rfl (Nat.le_of_ble_eq_true rfl) dX11_set_47 ⟨Nat.le_refl _, Nat.le_refl _⟩ (fun r6 u H locs h hw => ?_)
  have hw : wd D A s.heap (w_X11_set cy a_this a_refusals a_s w_image w_read w_tape w_told w_met w_best w_kept w_squares w_far w_queue v_refusals v_s v_isImage v_taped v_at v_wrongHour v_wrongThing v_soonest v_bestSteps) H locs := hw
  try dsimp only at h
  refine lv_istore_n (lv' := [(3, .int r6), (0, .ref a_this), (1, .int x1), (2, .int x2)]) hx hb dX11_set_50 rfl hl (by decide) rfl (fun ls hl => ?_)
  refine lv_iload_n hx hb dX11_set_51 rfl (lv_at hl 0 rfl) ?_
  refine lv_if_eq (tgt := 61) hx hb dX11_set_52 (by decide) (fun c7 => ?_) (fun c7 => ?_)
  · have h := h.1 c7
    refine lv_aload_n hx hb dX11_set_61 rfl (lv_at hl 1 rfl) ?_
    refine g_get (ci := 11) ha hw 0 1 rfl hi_X11_set_11 (by decide) (List.mem_of_getElem? (i := 1) rfl) rfl rfl dX11_set_62 ?_
    refine lv_iconst (v := (4 : Int32)) hx hb dX11_set_65 (by decide) ?_
    refine lv_iload_n hx hb dX11_set_66 rfl (lv_at hl 2 rfl) ?_
    refine lv_iadd hx hb dX11_set_67 ?_
    obtain ⟨z8, h⟩ := h
    refine g_ald ha hw 2 rfl z8 dX11_set_68 ?_
    refine lv_topi (fun x4_9 ex4_9 => ?_)
    have h := h x4_9 ex4_9
    refine lv_istore (lv' := [(4, .int x4_9), (3, .int r6), (0, .ref a_this), (1, .int x1), (2, .int x2)]) hx hb dX11_set_69 hl (by decide) rfl (fun ls hl => ?_)
    refine lv_aload_n hx hb dX11_set_71 rfl (lv_at hl 2 rfl) ?_
    refine g_get (ci := 11) ha hw 0 1 rfl hi_X11_set_11 (by decide) (List.mem_of_getElem? (i := 1) rfl) rfl rfl dX11_set_72 ?_
    refine lv_iconst (v := (4 : Int32)) hx hb dX11_set_75 (by decide) ?_
    refine lv_iload_n hx hb dX11_set_76 rfl (lv_at hl 3 rfl) ?_
    refine lv_iadd hx hb dX11_set_77 ?_
    refine lv_iload_n hx hb dX11_set_78 rfl (lv_at hl 4 rfl) ?_
    refine g_ast (wn := (w_X11_set cy a_this a_refusals a_s w_image w_read w_tape w_told w_met w_best w_kept w_squares w_far w_queue v_refusals (upd v_s ((4 : Int32) + x1).toNatClampNeg x2) v_isImage v_taped v_at v_wrongHour v_wrongThing v_soonest v_bestSteps)) ha hw 2 rfl z8 rfl dX11_set_79 (fun H locs hw => ?_)
    refine lv_iload hx hb dX11_set_80 (lv_at hl 0 rfl) ?_
    exact hr _ _ (v_refusals, upd v_s ((4 : Int32) + x1).toNatClampNeg x2) _ _ _ dX11_set_82 h hw
  · have h := h.2 c7
    refine lv_aload_n hx hb dX11_set_55 rfl (lv_at hl 1 rfl) ?_
    refine lv_iload_n hx hb dX11_set_56 rfl (lv_at hl 0 rfl) ?_
    refine g_cvi (rm := { frames := 1, cells := 0, slots := 0, locals := 64 }) (wn := (fun (u : IA) => (w_X11_set cy a_this a_refusals a_s w_image w_read w_tape w_told w_met w_best w_kept w_squares w_far w_queue u v_s v_isImage v_taped v_at v_wrongHour v_wrongThing v_soonest v_bestSteps))) (As := [.int r6]) ha hw hl.1 (c_X11_refuse (cy := cy)) (cwV 1 ha.2.2.2.2.1 gX11_set_X11_refuse rfl rfl rfl hq_X11_refuse ⟨Nat.le_of_ble_eq_true rfl, Nat.le_of_ble_eq_true rfl⟩) [0, 1] [2] [1, 2, 0] rfl rfl rfl rfl (by decide) rfl (fun _ => rfl) rfl rfl h rfl rfl (Nat.le_of_ble_eq_true rfl) dX11_set_57 ⟨Nat.le_refl _, Nat.le_refl _⟩ (fun r10 u H locs h hw => ?_)
    obtain ⟨v_refusals_11, rfl⟩ : ∃ z, z = u := ⟨_, rfl⟩
    have hw : wd D A s.heap (w_X11_set cy a_this a_refusals a_s w_image w_read w_tape w_told w_met w_best w_kept w_squares w_far w_queue v_refusals_11 v_s v_isImage v_taped v_at v_wrongHour v_wrongThing v_soonest v_bestSteps) H locs := hw
    try dsimp only at h
    exact hr _ _ (v_refusals_11, v_s) _ _ _ dX11_set_60 h hw
def wp_X11_set_26 (x1 : Int32) (x2 : Int32) (K : Int32 → IA → IA → Prop) (v_refusals : IA) (v_s : IA) (t0 : Int32) (t1 : Int32) : Prop := ((2 : Int32) ≤ x1 → (x1 = (2 : Int32) → wp_X11_set_47 x1 x2 K v_refusals v_s (99 : Int32) t0 t1) ∧ (¬ (x1 = (2 : Int32)) → wp_X11_set_47 x1 x2 K v_refusals v_s (3 : Int32) t0 t1)) ∧ (¬ ((2 : Int32) ≤ x1) → wp_X11_set_47 x1 x2 K v_refusals v_s (24 : Int32) t0 t1)
set_option maxHeartbeats 4000000 in
set_option maxRecDepth 100000 in
theorem pl_X11_set_26 {p : Program} {l : Launch} {e : Env} {s : State} {m : MethodId} {args : Array Value} {below : List Frame} {meth : Method} {c : Code} {A : Nat → Prop} {Q : State → Prop} {D : va_G} {cy : ClassId} {a_this a_refusals a_s : Nat} {w_image w_read w_tape w_told w_met w_best w_kept w_squares w_far w_queue : Value} {v_isImage : Int32} {v_taped : Int32} {v_at : Int32} {v_wrongHour : Int32} {v_wrongThing : Int32} {v_soonest : Int32} {v_bestSteps : Int32} {x1 : Int32} {x2 : Int32} {K : Int32 → IA → IA → Prop} (ha : am p s m args c cX11_set 5 RX11 wsX11_set D cy A) (hr : rtI p l e { frames := 2, cells := 0, slots := 0, locals := 150 } s m args below meth c 0 0 Q cX11_set D A (fun (u : IA × IA) => (w_X11_set cy a_this a_refusals a_s w_image w_read w_tape w_told w_met w_best w_kept w_squares w_far w_queue u.1 u.2 v_isImage v_taped v_at v_wrongHour v_wrongThing v_soonest v_bestSteps)) (fun (r : Int32) (u : IA × IA) => K r u.1 u.2)) {v_refusals : IA} {v_s : IA} {t0 : Int32} {t1 : Int32} {H : Heap} {locs : List Loc} {ls : Array Slot} : wp_X11_set_26 x1 x2 K v_refusals v_s t0 t1 → wd D A s.heap (w_X11_set cy a_this a_refusals a_s w_image w_read w_tape w_told w_met w_best w_kept w_squares w_far w_queue v_refusals v_s v_isImage v_taped v_at v_wrongHour v_wrongThing v_soonest v_bestSteps) H locs → lv_has ls 5 [(0, .ref a_this), (1, .int x1), (2, .int x2)] → W p l e { frames := 2, cells := 0, slots := 0, locals := 150 } s m args below meth c H locs 0 0 Q (F0 m 26 ls [.int t0, .int t1]) := by
  have hx := ha.1
  have hb := ha.2.1
  intro h hw hl
  have h : ((2 : Int32) ≤ x1 → (x1 = (2 : Int32) → wp_X11_set_47 x1 x2 K v_refusals v_s (99 : Int32) t0 t1) ∧ (¬ (x1 = (2 : Int32)) → wp_X11_set_47 x1 x2 K v_refusals v_s (3 : Int32) t0 t1)) ∧ (¬ ((2 : Int32) ≤ x1) → wp_X11_set_47 x1 x2 K v_refusals v_s (24 : Int32) t0 t1) := h
  refine lv_iload_n hx hb dX11_set_26 rfl (lv_at hl 1 rfl) ?_
  refine lv_iconst (v := (2 : Int32)) hx hb dX11_set_27 (by decide) ?_
  refine lv_icmp_ge (tgt := 36) hx hb dX11_set_28 (by decide) (fun c4 => ?_) (fun c4 => ?_)
  · have h := h.1 c4
    refine lv_iload_n hx hb dX11_set_36 rfl (lv_at hl 1 rfl) ?_
    refine lv_iconst (v := (2 : Int32)) hx hb dX11_set_37 (by decide) ?_
    refine lv_icmp_ne (tgt := 46) hx hb dX11_set_38 (by decide) (fun c5 => ?_) (fun c5 => ?_)
    · have h := h.2 c5
      refine lv_iconst (v := (3 : Int32)) hx hb dX11_set_46 (by decide) ?_
      refine pl_X11_set_47 ha hr h hw (lv_sub hl [0, 1, 2] rfl)
    · have h := h.1 c5
      refine lv_bipush (v := (99 : Int32)) hx hb dX11_set_41 (by decide) ?_
      refine lv_goto (tgt := 47) hx hb dX11_set_43 (by decide) ?_
      refine pl_X11_set_47 ha hr h hw (lv_sub hl [0, 1, 2] rfl)
  · have h := h.2 c4
    refine lv_bipush (v := (24 : Int32)) hx hb dX11_set_31 (by decide) ?_
    refine lv_goto (tgt := 47) hx hb dX11_set_33 (by decide) ?_
    refine pl_X11_set_47 ha hr h hw (lv_sub hl [0, 1, 2] rfl)
def wp_X11_set (x1 : Int32) (x2 : Int32) (v_refusals : IA) (v_s : IA) (K : Int32 → IA → IA → Prop) : Prop := wp_X11_isIn x1 (4 : Int32) (fun (r1 : Int32) => (r1 = 0 → wp_X11_refuse (-2 : Int32) v_refusals (fun (r12 : Int32) (v_refusals_13 : IA) => K r12 v_refusals_13 v_s)) ∧ (¬ (r1 = 0) → (x1 = (1 : Int32) → wp_X11_set_26 x1 x2 K v_refusals v_s (0 : Int32) x2) ∧ (¬ (x1 = (1 : Int32)) → wp_X11_set_26 x1 x2 K v_refusals v_s (1 : Int32) x2)))
set_option maxHeartbeats 4000000 in
set_option maxRecDepth 100000 in
theorem c_X11_set {l : Launch} {D : va_G} {cy : ClassId} {a_this a_refusals a_s : Nat} {w_image w_read w_tape w_told w_met w_best w_kept w_squares w_far w_queue : Value} {v_refusals : IA} {v_s : IA} {v_isImage : Int32} {v_taped : Int32} {v_at : Int32} {v_wrongHour : Int32} {v_wrongThing : Int32} {v_soonest : Int32} {v_bestSteps : Int32} {x1 : Int32} {x2 : Int32} {K : Int32 → IA → IA → Prop} : CtI l yX11_set wsX11_set { frames := 2, cells := 0, slots := 0, locals := 150 } 0 0 D cy [.ref a_this, .int x1, .int x2] (w_X11_set cy a_this a_refusals a_s w_image w_read w_tape w_told w_met w_best w_kept w_squares w_far w_queue v_refusals v_s v_isImage v_taped v_at v_wrongHour v_wrongThing v_soonest v_bestSteps) (wp_X11_set x1 x2 v_refusals v_s K) (fun (u : IA × IA) => (w_X11_set cy a_this a_refusals a_s w_image w_read w_tape w_told w_met w_best w_kept w_squares w_far w_queue u.1 u.2 v_isImage v_taped v_at v_wrongHour v_wrongThing v_soonest v_bestSteps)) (fun (r : Int32) (u : IA × IA) => K r u.1 u.2) := by
  refine CtI.mk (cc := cX11_set) (nL := 5) (ty := .int) (by decide) rfl (Nat.le_of_ble_eq_true rfl) (fun r u h => rfl) ?_
  intro p e s m args below meth c A Q ha hr _ h ls hl hw
  have ha : am p s m args c cX11_set 5 RX11 wsX11_set D cy A := ha
  have hx := ha.1
  have hb := ha.2.1
  have hl : lv_has ls 5 [(0, .ref a_this), (1, .int x1), (2, .int x2)] := hl
  have h : wp_X11_isIn x1 (4 : Int32) (fun (r1 : Int32) => (r1 = 0 → wp_X11_refuse (-2 : Int32) v_refusals (fun (r12 : Int32) (v_refusals_13 : IA) => K r12 v_refusals_13 v_s)) ∧ (¬ (r1 = 0) → (x1 = (1 : Int32) → wp_X11_set_26 x1 x2 K v_refusals v_s (0 : Int32) x2) ∧ (¬ (x1 = (1 : Int32)) → wp_X11_set_26 x1 x2 K v_refusals v_s (1 : Int32) x2))) := h
  refine lv_iload_n hx hb dX11_set_0 rfl (lv_at hl 1 rfl) ?_
  refine lv_iconst (v := (4 : Int32)) hx hb dX11_set_1 (by decide) ?_
  refine g_csi (rm := { frames := 1, cells := 0, slots := 0, locals := 64 }) (wn := (fun (u : Unit) => (w_X11_set cy a_this a_refusals a_s w_image w_read w_tape w_told w_met w_best w_kept w_squares w_far w_queue v_refusals v_s v_isImage v_taped v_at v_wrongHour v_wrongThing v_soonest v_bestSteps))) (As := [.int x1, .int (4 : Int32)]) ha hw hl.1 (c_X11_isIn (cy := cy)) (va_cwS 2 ha.2.2.2.2.1 gX11_set_X11_isIn rfl rfl rfl hq_X11_isIn ⟨Nat.le_of_ble_eq_true rfl, Nat.le_of_ble_eq_true rfl⟩) [] [0, 1, 2] [0, 1, 2] rfl rfl rfl rfl (by decide) rfl (fun _ => rfl) h rfl rfl (Nat.le_of_ble_eq_true rfl) dX11_set_2 ⟨Nat.le_refl _, Nat.le_refl _⟩ (fun r1 u H locs h hw => ?_)
  have hw : wd D A s.heap (w_X11_set cy a_this a_refusals a_s w_image w_read w_tape w_told w_met w_best w_kept w_squares w_far w_queue v_refusals v_s v_isImage v_taped v_at v_wrongHour v_wrongThing v_soonest v_bestSteps) H locs := hw
  obtain ⟨zr1, h⟩ := h
  try dsimp only at h
  refine lv_if_ne (tgt := 15) hx hb dX11_set_5 (by decide) (fun c2 => ?_) (fun c2 => ?_)
  · have h := h.2 c2
    refine lv_iload_n hx hb dX11_set_15 rfl (lv_at hl 2 rfl) ?_
    refine lv_iload_n hx hb dX11_set_16 rfl (lv_at hl 1 rfl) ?_
    refine lv_iconst (v := (1 : Int32)) hx hb dX11_set_17 (by decide) ?_
    refine lv_icmp_ne (tgt := 25) hx hb dX11_set_18 (by decide) (fun c3 => ?_) (fun c3 => ?_)
    · have h := h.2 c3
      refine lv_iconst (v := (1 : Int32)) hx hb dX11_set_25 (by decide) ?_
      refine pl_X11_set_26 ha hr h hw (lv_sub hl [0, 1, 2] rfl)
    · have h := h.1 c3
      refine lv_iconst (v := (0 : Int32)) hx hb dX11_set_21 (by decide) ?_
      refine lv_goto (tgt := 26) hx hb dX11_set_22 (by decide) ?_
      refine pl_X11_set_26 ha hr h hw (lv_sub hl [0, 1, 2] rfl)
  · have h := h.1 c2
    refine lv_aload_n hx hb dX11_set_8 rfl (lv_at hl 0 rfl) ?_
    refine lv_bipush (v := (-2 : Int32)) hx hb dX11_set_9 (by decide) ?_
    refine g_cvi (rm := { frames := 1, cells := 0, slots := 0, locals := 64 }) (wn := (fun (u : IA) => (w_X11_set cy a_this a_refusals a_s w_image w_read w_tape w_told w_met w_best w_kept w_squares w_far w_queue u v_s v_isImage v_taped v_at v_wrongHour v_wrongThing v_soonest v_bestSteps))) (As := [.int (-2 : Int32)]) ha hw hl.1 (c_X11_refuse (cy := cy)) (cwV 1 ha.2.2.2.2.1 gX11_set_X11_refuse rfl rfl rfl hq_X11_refuse ⟨Nat.le_of_ble_eq_true rfl, Nat.le_of_ble_eq_true rfl⟩) [0, 1] [2] [1, 2, 0] rfl rfl rfl rfl (by decide) rfl (fun _ => rfl) rfl rfl h rfl rfl (Nat.le_of_ble_eq_true rfl) dX11_set_11 ⟨Nat.le_refl _, Nat.le_refl _⟩ (fun r12 u H locs h hw => ?_)
    obtain ⟨v_refusals_13, rfl⟩ : ∃ z, z = u := ⟨_, rfl⟩
    have hw : wd D A s.heap (w_X11_set cy a_this a_refusals a_s w_image w_read w_tape w_told w_met w_best w_kept w_squares w_far w_queue v_refusals_13 v_s v_isImage v_taped v_at v_wrongHour v_wrongThing v_soonest v_bestSteps) H locs := hw
    try dsimp only at h
    exact hr _ _ (v_refusals_13, v_s) _ _ _ dX11_set_14 h hw
theorem hq_X11_allRooms : yX11_allRooms.cls = RX11 ∧ yX11_allRooms.cls ≠ "java/lang/invoke/MethodHandle" ∧ yX11_allRooms.cls ≠ "java/lang/invoke/VarHandle" ∧ (parseMethodDescriptor yX11_allRooms.desc).map (fun d => d.parameters.length) = some 0 := by decide +kernel
def w_X11_allRooms (cy : ClassId) (a_this a_s : Nat) (w_refusals w_image w_read w_tape w_told w_met w_best w_kept w_squares w_far w_queue : Value) (v_s : IA) (v_isImage : Int32) (v_taped : Int32) (v_at : Int32) (v_wrongHour : Int32) (v_wrongThing : Int32) (v_soonest : Int32) (v_bestSteps : Int32) : va_W := [(a_this, .inr (11, [w_refusals, .ref a_s, w_image, w_read, .int v_isImage, w_tape, w_told, .int v_taped, .int v_at, w_met, .int v_wrongHour, .int v_wrongThing, w_best, w_kept, .int v_soonest, .int v_bestSteps, w_squares, w_far, w_queue])), (a_s, .inl (cy, 120, .inl v_s))]
theorem hi_X11_allRooms_11 : ∀ w ∈ u_ws RX11 TX11 19, w ∈ wsX11_allRooms := fun _ h => List.mem_cons_of_mem _ (List.mem_append_right _ h)
def wp_X11_allRooms (v_s : IA) (K : Int32 → Prop) : Prop := K (((1 : Int32) <<< ((v_s (0 : Int32).toNatClampNeg) &&& 31)) - (2 : Int32))
set_option maxHeartbeats 4000000 in
set_option maxRecDepth 100000 in
theorem c_X11_allRooms {l : Launch} {D : va_G} {cy : ClassId} {a_this a_s : Nat} {w_refusals w_image w_read w_tape w_told w_met w_best w_kept w_squares w_far w_queue : Value} {v_s : IA} {v_isImage : Int32} {v_taped : Int32} {v_at : Int32} {v_wrongHour : Int32} {v_wrongThing : Int32} {v_soonest : Int32} {v_bestSteps : Int32} {K : Int32 → Prop} : CtI l yX11_allRooms wsX11_allRooms { frames := 1, cells := 0, slots := 0, locals := 64 } 0 0 D cy [.ref a_this] (w_X11_allRooms cy a_this a_s w_refusals w_image w_read w_tape w_told w_met w_best w_kept w_squares w_far w_queue v_s v_isImage v_taped v_at v_wrongHour v_wrongThing v_soonest v_bestSteps) (wp_X11_allRooms v_s K) (fun (u : Unit) => (w_X11_allRooms cy a_this a_s w_refusals w_image w_read w_tape w_told w_met w_best w_kept w_squares w_far w_queue v_s v_isImage v_taped v_at v_wrongHour v_wrongThing v_soonest v_bestSteps)) (fun (r : Int32) (u : Unit) => K r) := by
  refine CtI.mk (cc := cX11_allRooms) (nL := 1) (ty := .int) (by decide) rfl (Nat.le_of_ble_eq_true rfl) (fun r u h => rfl) ?_
  intro p e s m args below meth c A Q ha hr _ h ls hl hw
  have ha : am p s m args c cX11_allRooms 1 RX11 wsX11_allRooms D cy A := ha
  have hx := ha.1
  have hb := ha.2.1
  have hl : lv_has ls 1 [(0, .ref a_this)] := hl
  have h : K (((1 : Int32) <<< ((v_s (0 : Int32).toNatClampNeg) &&& 31)) - (2 : Int32)) := h
  refine lv_iconst (v := (1 : Int32)) hx hb dX11_allRooms_0 (by decide) ?_
  refine lv_aload_n hx hb dX11_allRooms_1 rfl (lv_at hl 0 rfl) ?_
  refine g_get (ci := 11) ha hw 0 1 rfl hi_X11_allRooms_11 (by decide) (List.mem_of_getElem? (i := 1) rfl) rfl rfl dX11_allRooms_2 ?_
  refine lv_iconst (v := (0 : Int32)) hx hb dX11_allRooms_5 (by decide) ?_
  refine g_ald ha hw 1 rfl (vp_in_iff.mpr (by decide)) dX11_allRooms_6 ?_
  refine lv_ishl hx hb dX11_allRooms_7 ?_
  refine lv_iconst (v := (2 : Int32)) hx hb dX11_allRooms_8 (by decide) ?_
  refine lv_isub hx hb dX11_allRooms_9 ?_
  exact hr _ _ () _ _ _ dX11_allRooms_10 h hw
theorem hq_X11_planks : yX11_planks.cls = RX11 ∧ yX11_planks.cls ≠ "java/lang/invoke/MethodHandle" ∧ yX11_planks.cls ≠ "java/lang/invoke/VarHandle" ∧ (parseMethodDescriptor yX11_planks.desc).map (fun d => d.parameters.length) = some 1 := by decide +kernel
def w_X11_planks (cy : ClassId) (a_this a_refusals a_s : Nat) (w_image w_read w_tape w_told w_met w_best w_kept w_squares w_far w_queue : Value) (v_refusals : IA) (v_s : IA) (v_isImage : Int32) (v_taped : Int32) (v_at : Int32) (v_wrongHour : Int32) (v_wrongThing : Int32) (v_soonest : Int32) (v_bestSteps : Int32) : va_W := [(a_this, .inr (11, [.ref a_refusals, .ref a_s, w_image, w_read, .int v_isImage, w_tape, w_told, .int v_taped, .int v_at, w_met, .int v_wrongHour, .int v_wrongThing, w_best, w_kept, .int v_soonest, .int v_bestSteps, w_squares, w_far, w_queue])), (a_refusals, .inl (cy, 7, .inl v_refusals)), (a_s, .inl (cy, 120, .inl v_s))]
theorem hi_X11_planks_11 : ∀ w ∈ u_ws RX11 TX11 19, w ∈ wsX11_planks := fun _ h => List.mem_cons_of_mem _ (List.mem_append_right _ h)
def wp_X11_planks (x1 : Int32) (v_refusals : IA) (v_s : IA) (K : Int32 → IA → IA → Prop) : Prop := wp_X11_allRooms v_s (fun (r1 : Int32) => ((x1 &&& (r1 ^^^ (-1 : Int32))) = 0 → ∀ x2_3 : Int32, x2_3 = v_s (8 : Int32).toNatClampNeg → K x2_3 v_refusals (upd v_s (8 : Int32).toNatClampNeg x1)) ∧ (¬ ((x1 &&& (r1 ^^^ (-1 : Int32))) = 0) → wp_X11_refuse (-1 : Int32) v_refusals (fun (r4 : Int32) (v_refusals_5 : IA) => K r4 v_refusals_5 v_s)))
set_option maxHeartbeats 4000000 in
set_option maxRecDepth 100000 in
theorem c_X11_planks {l : Launch} {D : va_G} {cy : ClassId} {a_this a_refusals a_s : Nat} {w_image w_read w_tape w_told w_met w_best w_kept w_squares w_far w_queue : Value} {v_refusals : IA} {v_s : IA} {v_isImage : Int32} {v_taped : Int32} {v_at : Int32} {v_wrongHour : Int32} {v_wrongThing : Int32} {v_soonest : Int32} {v_bestSteps : Int32} {x1 : Int32} {K : Int32 → IA → IA → Prop} : CtI l yX11_planks wsX11_planks { frames := 2, cells := 0, slots := 0, locals := 149 } 0 0 D cy [.ref a_this, .int x1] (w_X11_planks cy a_this a_refusals a_s w_image w_read w_tape w_told w_met w_best w_kept w_squares w_far w_queue v_refusals v_s v_isImage v_taped v_at v_wrongHour v_wrongThing v_soonest v_bestSteps) (wp_X11_planks x1 v_refusals v_s K) (fun (u : IA × IA) => (w_X11_planks cy a_this a_refusals a_s w_image w_read w_tape w_told w_met w_best w_kept w_squares w_far w_queue u.1 u.2 v_isImage v_taped v_at v_wrongHour v_wrongThing v_soonest v_bestSteps)) (fun (r : Int32) (u : IA × IA) => K r u.1 u.2) := by
  refine CtI.mk (cc := cX11_planks) (nL := 3) (ty := .int) (by decide) rfl (Nat.le_of_ble_eq_true rfl) (fun r u h => rfl) ?_
  intro p e s m args below meth c A Q ha hr _ h ls hl hw
  have ha : am p s m args c cX11_planks 3 RX11 wsX11_planks D cy A := ha
  have hx := ha.1
  have hb := ha.2.1
  have hl : lv_has ls 3 [(0, .ref a_this), (1, .int x1)] := hl
  have h : wp_X11_allRooms v_s (fun (r1 : Int32) => ((x1 &&& (r1 ^^^ (-1 : Int32))) = 0 → ∀ x2_3 : Int32, x2_3 = v_s (8 : Int32).toNatClampNeg → K x2_3 v_refusals (upd v_s (8 : Int32).toNatClampNeg x1)) ∧ (¬ ((x1 &&& (r1 ^^^ (-1 : Int32))) = 0) → wp_X11_refuse (-1 : Int32) v_refusals (fun (r4 : Int32) (v_refusals_5 : IA) => K r4 v_refusals_5 v_s))) := h
  refine lv_iload_n hx hb dX11_planks_0 rfl (lv_at hl 1 rfl) ?_
  refine lv_aload_n hx hb dX11_planks_1 rfl (lv_at hl 0 rfl) ?_
  refine g_cvi (rm := { frames := 1, cells := 0, slots := 0, locals := 64 }) (wn := (fun (u : Unit) => (w_X11_planks cy a_this a_refusals a_s w_image w_read w_tape w_told w_met w_best w_kept w_squares w_far w_queue v_refusals v_s v_isImage v_taped v_at v_wrongHour v_wrongThing v_soonest v_bestSteps))) (As := []) ha hw hl.1 (c_X11_allRooms (cy := cy)) (cwV 0 ha.2.2.2.2.1 gX11_planks_X11_allRooms rfl rfl rfl hq_X11_allRooms ⟨Nat.le_of_ble_eq_true rfl, Nat.le_of_ble_eq_true rfl⟩) [0, 2] [1] [1, 0, 2] rfl rfl rfl rfl (by decide) rfl (fun _ => rfl) rfl rfl h rfl rfl (Nat.le_of_ble_eq_true rfl) dX11_planks_2 ⟨Nat.le_refl _, Nat.le_refl _⟩ (fun r1 u H locs h hw => ?_)
  have hw : wd D A s.heap (w_X11_planks cy a_this a_refusals a_s w_image w_read w_tape w_told w_met w_best w_kept w_squares w_far w_queue v_refusals v_s v_isImage v_taped v_at v_wrongHour v_wrongThing v_soonest v_bestSteps) H locs := hw
  try dsimp only at h
  refine lv_iconst (v := (-1 : Int32)) hx hb dX11_planks_5 (by decide) ?_
  refine lv_ixor hx hb dX11_planks_6 ?_
  refine lv_iand hx hb dX11_planks_7 ?_
  refine lv_if_eq (tgt := 17) hx hb dX11_planks_8 (by decide) (fun c2 => ?_) (fun c2 => ?_)
  · have h := h.1 c2
    refine lv_aload_n hx hb dX11_planks_17 rfl (lv_at hl 0 rfl) ?_
    refine g_get (ci := 11) ha hw 0 1 rfl hi_X11_planks_11 (by decide) (List.mem_of_getElem? (i := 1) rfl) rfl rfl dX11_planks_18 ?_
    refine lv_bipush (v := (8 : Int32)) hx hb dX11_planks_21 (by decide) ?_
    refine g_ald ha hw 2 rfl (vp_in_iff.mpr (by decide)) dX11_planks_23 ?_
    refine lv_topi (fun x2_3 ex2_3 => ?_)
    have h := h x2_3 ex2_3
    refine lv_istore_n (lv' := [(2, .int x2_3), (0, .ref a_this), (1, .int x1)]) hx hb dX11_planks_24 rfl hl (by decide) rfl (fun ls hl => ?_)
    refine lv_aload_n hx hb dX11_planks_25 rfl (lv_at hl 1 rfl) ?_
    refine g_get (ci := 11) ha hw 0 1 rfl hi_X11_planks_11 (by decide) (List.mem_of_getElem? (i := 1) rfl) rfl rfl dX11_planks_26 ?_
    refine lv_bipush (v := (8 : Int32)) hx hb dX11_planks_29 (by decide) ?_
    refine lv_iload_n hx hb dX11_planks_31 rfl (lv_at hl 2 rfl) ?_
    refine g_ast (wn := (w_X11_planks cy a_this a_refusals a_s w_image w_read w_tape w_told w_met w_best w_kept w_squares w_far w_queue v_refusals (upd v_s (8 : Int32).toNatClampNeg x1) v_isImage v_taped v_at v_wrongHour v_wrongThing v_soonest v_bestSteps)) ha hw 2 rfl (vp_in_iff.mpr (by decide)) rfl dX11_planks_32 (fun H locs hw => ?_)
    refine lv_iload_n hx hb dX11_planks_33 rfl (lv_at hl 0 rfl) ?_
    exact hr _ _ (v_refusals, upd v_s (8 : Int32).toNatClampNeg x1) _ _ _ dX11_planks_34 h hw
  · have h := h.2 c2
    refine lv_aload_n hx hb dX11_planks_11 rfl (lv_at hl 0 rfl) ?_
    refine lv_iconst (v := (-1 : Int32)) hx hb dX11_planks_12 (by decide) ?_
    refine g_cvi (rm := { frames := 1, cells := 0, slots := 0, locals := 64 }) (wn := (fun (u : IA) => (w_X11_planks cy a_this a_refusals a_s w_image w_read w_tape w_told w_met w_best w_kept w_squares w_far w_queue u v_s v_isImage v_taped v_at v_wrongHour v_wrongThing v_soonest v_bestSteps))) (As := [.int (-1 : Int32)]) ha hw hl.1 (c_X11_refuse (cy := cy)) (cwV 1 ha.2.2.2.2.1 gX11_planks_X11_refuse rfl rfl rfl hq_X11_refuse ⟨Nat.le_of_ble_eq_true rfl, Nat.le_of_ble_eq_true rfl⟩) [0, 1] [2] [1, 2, 0] rfl rfl rfl rfl (by decide) rfl (fun _ => rfl) rfl rfl h rfl rfl (Nat.le_of_ble_eq_true rfl) dX11_planks_13 ⟨Nat.le_refl _, Nat.le_refl _⟩ (fun r4 u H locs h hw => ?_)
    obtain ⟨v_refusals_5, rfl⟩ : ∃ z, z = u := ⟨_, rfl⟩
    have hw : wd D A s.heap (w_X11_planks cy a_this a_refusals a_s w_image w_read w_tape w_told w_met w_best w_kept w_squares w_far w_queue v_refusals_5 v_s v_isImage v_taped v_at v_wrongHour v_wrongThing v_soonest v_bestSteps) H locs := hw
    try dsimp only at h
    exact hr _ _ (v_refusals_5, v_s) _ _ _ dX11_planks_16 h hw
theorem hq_X11_step : yX11_step.cls = RX11 ∧ yX11_step.cls ≠ "java/lang/invoke/MethodHandle" ∧ yX11_step.cls ≠ "java/lang/invoke/VarHandle" ∧ (parseMethodDescriptor yX11_step.desc).map (fun d => d.parameters.length) = some 2 := by decide +kernel
def w_X11_step (cy : ClassId) (a_this a_refusals a_s : Nat) (w_image w_read w_tape w_told w_met w_best w_kept w_squares w_far w_queue : Value) (v_refusals : IA) (v_s : IA) (v_isImage : Int32) (v_taped : Int32) (v_at : Int32) (v_wrongHour : Int32) (v_wrongThing : Int32) (v_soonest : Int32) (v_bestSteps : Int32) : va_W := [(a_this, .inr (11, [.ref a_refusals, .ref a_s, w_image, w_read, .int v_isImage, w_tape, w_told, .int v_taped, .int v_at, w_met, .int v_wrongHour, .int v_wrongThing, w_best, w_kept, .int v_soonest, .int v_bestSteps, w_squares, w_far, w_queue])), (a_refusals, .inl (cy, 7, .inl v_refusals)), (a_s, .inl (cy, 120, .inl v_s))]
theorem hi_X11_step_11 : ∀ w ∈ u_ws RX11 TX11 19, w ∈ wsX11_step := fun _ h => List.mem_cons_of_mem _ (List.mem_append_right _ h)
def wp_X11_step_38 (x1 : Int32) (x2 : Int32) (x3 : Int32) (K : Int32 → IA → IA → Prop) (v_refusals : IA) (v_s : IA) : Prop := (x3 = 0 → vp_in ((77 : Int32) + ((2 : Int32) * (v_s (3 : Int32).toNatClampNeg))) 120 ∧ (vp_in (((77 : Int32) + ((2 : Int32) * ((upd v_s ((77 : Int32) + ((2 : Int32) * (v_s (3 : Int32).toNatClampNeg))).toNatClampNeg x1) (3 : Int32).toNatClampNeg))) + (1 : Int32)) 120 ∧ (K ((upd (upd (upd v_s ((77 : Int32) + ((2 : Int32) * (v_s (3 : Int32).toNatClampNeg))).toNatClampNeg x1) (((77 : Int32) + ((2 : Int32) * ((upd v_s ((77 : Int32) + ((2 : Int32) * (v_s (3 : Int32).toNatClampNeg))).toNatClampNeg x1) (3 : Int32).toNatClampNeg))) + (1 : Int32)).toNatClampNeg x2) (3 : Int32).toNatClampNeg (((upd (upd v_s ((77 : Int32) + ((2 : Int32) * (v_s (3 : Int32).toNatClampNeg))).toNatClampNeg x1) (((77 : Int32) + ((2 : Int32) * ((upd v_s ((77 : Int32) + ((2 : Int32) * (v_s (3 : Int32).toNatClampNeg))).toNatClampNeg x1) (3 : Int32).toNatClampNeg))) + (1 : Int32)).toNatClampNeg x2) (3 : Int32).toNatClampNeg) + (1 : Int32))) (3 : Int32).toNatClampNeg) v_refusals (upd (upd (upd v_s ((77 : Int32) + ((2 : Int32) * (v_s (3 : Int32).toNatClampNeg))).toNatClampNeg x1) (((77 : Int32) + ((2 : Int32) * ((upd v_s ((77 : Int32) + ((2 : Int32) * (v_s (3 : Int32).toNatClampNeg))).toNatClampNeg x1) (3 : Int32).toNatClampNeg))) + (1 : Int32)).toNatClampNeg x2) (3 : Int32).toNatClampNeg (((upd (upd v_s ((77 : Int32) + ((2 : Int32) * (v_s (3 : Int32).toNatClampNeg))).toNatClampNeg x1) (((77 : Int32) + ((2 : Int32) * ((upd v_s ((77 : Int32) + ((2 : Int32) * (v_s (3 : Int32).toNatClampNeg))).toNatClampNeg x1) (3 : Int32).toNatClampNeg))) + (1 : Int32)).toNatClampNeg x2) (3 : Int32).toNatClampNeg) + (1 : Int32)))))) ∧ (¬ (x3 = 0) → wp_X11_refuse x3 v_refusals (fun (r7 : Int32) (v_refusals_8 : IA) => K r7 v_refusals_8 v_s))
set_option maxHeartbeats 4000000 in
set_option maxRecDepth 100000 in
theorem pl_X11_step_38 {p : Program} {l : Launch} {e : Env} {s : State} {m : MethodId} {args : Array Value} {below : List Frame} {meth : Method} {c : Code} {A : Nat → Prop} {Q : State → Prop} {D : va_G} {cy : ClassId} {a_this a_refusals a_s : Nat} {w_image w_read w_tape w_told w_met w_best w_kept w_squares w_far w_queue : Value} {v_isImage : Int32} {v_taped : Int32} {v_at : Int32} {v_wrongHour : Int32} {v_wrongThing : Int32} {v_soonest : Int32} {v_bestSteps : Int32} {x1 : Int32} {x2 : Int32} {x3 : Int32} {K : Int32 → IA → IA → Prop} (ha : am p s m args c cX11_step 4 RX11 wsX11_step D cy A) (hr : rtI p l e { frames := 4, cells := 0, slots := 0, locals := 319 } s m args below meth c 0 0 Q cX11_step D A (fun (u : IA × IA) => (w_X11_step cy a_this a_refusals a_s w_image w_read w_tape w_told w_met w_best w_kept w_squares w_far w_queue u.1 u.2 v_isImage v_taped v_at v_wrongHour v_wrongThing v_soonest v_bestSteps)) (fun (r : Int32) (u : IA × IA) => K r u.1 u.2)) {v_refusals : IA} {v_s : IA} {H : Heap} {locs : List Loc} {ls : Array Slot} : wp_X11_step_38 x1 x2 x3 K v_refusals v_s → wd D A s.heap (w_X11_step cy a_this a_refusals a_s w_image w_read w_tape w_told w_met w_best w_kept w_squares w_far w_queue v_refusals v_s v_isImage v_taped v_at v_wrongHour v_wrongThing v_soonest v_bestSteps) H locs → lv_has ls 4 [(0, .ref a_this), (1, .int x1), (2, .int x2), (3, .int x3)] → W p l e { frames := 4, cells := 0, slots := 0, locals := 319 } s m args below meth c H locs 0 0 Q (F0 m 38 ls []) := by
  have hx := ha.1
  have hb := ha.2.1
  intro h hw hl
  have h : (x3 = 0 → vp_in ((77 : Int32) + ((2 : Int32) * (v_s (3 : Int32).toNatClampNeg))) 120 ∧ (vp_in (((77 : Int32) + ((2 : Int32) * ((upd v_s ((77 : Int32) + ((2 : Int32) * (v_s (3 : Int32).toNatClampNeg))).toNatClampNeg x1) (3 : Int32).toNatClampNeg))) + (1 : Int32)) 120 ∧ (K ((upd (upd (upd v_s ((77 : Int32) + ((2 : Int32) * (v_s (3 : Int32).toNatClampNeg))).toNatClampNeg x1) (((77 : Int32) + ((2 : Int32) * ((upd v_s ((77 : Int32) + ((2 : Int32) * (v_s (3 : Int32).toNatClampNeg))).toNatClampNeg x1) (3 : Int32).toNatClampNeg))) + (1 : Int32)).toNatClampNeg x2) (3 : Int32).toNatClampNeg (((upd (upd v_s ((77 : Int32) + ((2 : Int32) * (v_s (3 : Int32).toNatClampNeg))).toNatClampNeg x1) (((77 : Int32) + ((2 : Int32) * ((upd v_s ((77 : Int32) + ((2 : Int32) * (v_s (3 : Int32).toNatClampNeg))).toNatClampNeg x1) (3 : Int32).toNatClampNeg))) + (1 : Int32)).toNatClampNeg x2) (3 : Int32).toNatClampNeg) + (1 : Int32))) (3 : Int32).toNatClampNeg) v_refusals (upd (upd (upd v_s ((77 : Int32) + ((2 : Int32) * (v_s (3 : Int32).toNatClampNeg))).toNatClampNeg x1) (((77 : Int32) + ((2 : Int32) * ((upd v_s ((77 : Int32) + ((2 : Int32) * (v_s (3 : Int32).toNatClampNeg))).toNatClampNeg x1) (3 : Int32).toNatClampNeg))) + (1 : Int32)).toNatClampNeg x2) (3 : Int32).toNatClampNeg (((upd (upd v_s ((77 : Int32) + ((2 : Int32) * (v_s (3 : Int32).toNatClampNeg))).toNatClampNeg x1) (((77 : Int32) + ((2 : Int32) * ((upd v_s ((77 : Int32) + ((2 : Int32) * (v_s (3 : Int32).toNatClampNeg))).toNatClampNeg x1) (3 : Int32).toNatClampNeg))) + (1 : Int32)).toNatClampNeg x2) (3 : Int32).toNatClampNeg) + (1 : Int32)))))) ∧ (¬ (x3 = 0) → wp_X11_refuse x3 v_refusals (fun (r7 : Int32) (v_refusals_8 : IA) => K r7 v_refusals_8 v_s)) := h
  refine lv_iload_n hx hb dX11_step_38 rfl (lv_at hl 3 rfl) ?_
  refine lv_if_eq (tgt := 48) hx hb dX11_step_39 (by decide) (fun c4 => ?_) (fun c4 => ?_)
  · have h := h.1 c4
    refine lv_aload_n hx hb dX11_step_48 rfl (lv_at hl 0 rfl) ?_
    refine g_get (ci := 11) ha hw 0 1 rfl hi_X11_step_11 (by decide) (List.mem_of_getElem? (i := 1) rfl) rfl rfl dX11_step_49 ?_
    refine lv_bipush (v := (77 : Int32)) hx hb dX11_step_52 (by decide) ?_
    refine lv_iconst (v := (2 : Int32)) hx hb dX11_step_54 (by decide) ?_
    refine lv_aload_n hx hb dX11_step_55 rfl (lv_at hl 0 rfl) ?_
    refine g_get (ci := 11) ha hw 0 1 rfl hi_X11_step_11 (by decide) (List.mem_of_getElem? (i := 1) rfl) rfl rfl dX11_step_56 ?_
    refine lv_iconst (v := (3 : Int32)) hx hb dX11_step_59 (by decide) ?_
    refine g_ald ha hw 2 rfl (vp_in_iff.mpr (by decide)) dX11_step_60 ?_
    refine lv_imul hx hb dX11_step_61 ?_
    refine lv_iadd hx hb dX11_step_62 ?_
    refine lv_iload_n hx hb dX11_step_63 rfl (lv_at hl 1 rfl) ?_
    obtain ⟨z5, h⟩ := h
    refine g_ast (wn := (w_X11_step cy a_this a_refusals a_s w_image w_read w_tape w_told w_met w_best w_kept w_squares w_far w_queue v_refusals (upd v_s ((77 : Int32) + ((2 : Int32) * (v_s (3 : Int32).toNatClampNeg))).toNatClampNeg x1) v_isImage v_taped v_at v_wrongHour v_wrongThing v_soonest v_bestSteps)) ha hw 2 rfl z5 rfl dX11_step_64 (fun H locs hw => ?_)
    refine lv_aload_n hx hb dX11_step_65 rfl (lv_at hl 0 rfl) ?_
    refine g_get (ci := 11) ha hw 0 1 rfl hi_X11_step_11 (by decide) (List.mem_of_getElem? (i := 1) rfl) rfl rfl dX11_step_66 ?_
    refine lv_bipush (v := (77 : Int32)) hx hb dX11_step_69 (by decide) ?_
    refine lv_iconst (v := (2 : Int32)) hx hb dX11_step_71 (by decide) ?_
    refine lv_aload_n hx hb dX11_step_72 rfl (lv_at hl 0 rfl) ?_
    refine g_get (ci := 11) ha hw 0 1 rfl hi_X11_step_11 (by decide) (List.mem_of_getElem? (i := 1) rfl) rfl rfl dX11_step_73 ?_
    refine lv_iconst (v := (3 : Int32)) hx hb dX11_step_76 (by decide) ?_
    refine g_ald ha hw 2 rfl (vp_in_iff.mpr (by decide)) dX11_step_77 ?_
    refine lv_imul hx hb dX11_step_78 ?_
    refine lv_iadd hx hb dX11_step_79 ?_
    refine lv_iconst (v := (1 : Int32)) hx hb dX11_step_80 (by decide) ?_
    refine lv_iadd hx hb dX11_step_81 ?_
    refine lv_iload_n hx hb dX11_step_82 rfl (lv_at hl 2 rfl) ?_
    obtain ⟨z6, h⟩ := h
    refine g_ast (wn := (w_X11_step cy a_this a_refusals a_s w_image w_read w_tape w_told w_met w_best w_kept w_squares w_far w_queue v_refusals (upd (upd v_s ((77 : Int32) + ((2 : Int32) * (v_s (3 : Int32).toNatClampNeg))).toNatClampNeg x1) (((77 : Int32) + ((2 : Int32) * ((upd v_s ((77 : Int32) + ((2 : Int32) * (v_s (3 : Int32).toNatClampNeg))).toNatClampNeg x1) (3 : Int32).toNatClampNeg))) + (1 : Int32)).toNatClampNeg x2) v_isImage v_taped v_at v_wrongHour v_wrongThing v_soonest v_bestSteps)) ha hw 2 rfl z6 rfl dX11_step_83 (fun H locs hw => ?_)
    refine lv_aload_n hx hb dX11_step_84 rfl (lv_at hl 0 rfl) ?_
    refine g_get (ci := 11) ha hw 0 1 rfl hi_X11_step_11 (by decide) (List.mem_of_getElem? (i := 1) rfl) rfl rfl dX11_step_85 ?_
    refine lv_iconst (v := (3 : Int32)) hx hb dX11_step_88 (by decide) ?_
    refine lv_dup2_11 hx hb dX11_step_89 rfl rfl ?_
    refine g_ald ha hw 2 rfl (vp_in_iff.mpr (by decide)) dX11_step_90 ?_
    refine lv_iconst (v := (1 : Int32)) hx hb dX11_step_91 (by decide) ?_
    refine lv_iadd hx hb dX11_step_92 ?_
    refine g_ast (wn := (w_X11_step cy a_this a_refusals a_s w_image w_read w_tape w_told w_met w_best w_kept w_squares w_far w_queue v_refusals (upd (upd (upd v_s ((77 : Int32) + ((2 : Int32) * (v_s (3 : Int32).toNatClampNeg))).toNatClampNeg x1) (((77 : Int32) + ((2 : Int32) * ((upd v_s ((77 : Int32) + ((2 : Int32) * (v_s (3 : Int32).toNatClampNeg))).toNatClampNeg x1) (3 : Int32).toNatClampNeg))) + (1 : Int32)).toNatClampNeg x2) (3 : Int32).toNatClampNeg (((upd (upd v_s ((77 : Int32) + ((2 : Int32) * (v_s (3 : Int32).toNatClampNeg))).toNatClampNeg x1) (((77 : Int32) + ((2 : Int32) * ((upd v_s ((77 : Int32) + ((2 : Int32) * (v_s (3 : Int32).toNatClampNeg))).toNatClampNeg x1) (3 : Int32).toNatClampNeg))) + (1 : Int32)).toNatClampNeg x2) (3 : Int32).toNatClampNeg) + (1 : Int32))) v_isImage v_taped v_at v_wrongHour v_wrongThing v_soonest v_bestSteps)) ha hw 2 rfl (vp_in_iff.mpr (by decide)) rfl dX11_step_93 (fun H locs hw => ?_)
    refine lv_aload_n hx hb dX11_step_94 rfl (lv_at hl 0 rfl) ?_
    refine g_get (ci := 11) ha hw 0 1 rfl hi_X11_step_11 (by decide) (List.mem_of_getElem? (i := 1) rfl) rfl rfl dX11_step_95 ?_
    refine lv_iconst (v := (3 : Int32)) hx hb dX11_step_98 (by decide) ?_
    refine g_ald ha hw 2 rfl (vp_in_iff.mpr (by decide)) dX11_step_99 ?_
    exact hr _ _ (v_refusals, upd (upd (upd v_s ((77 : Int32) + ((2 : Int32) * (v_s (3 : Int32).toNatClampNeg))).toNatClampNeg x1) (((77 : Int32) + ((2 : Int32) * ((upd v_s ((77 : Int32) + ((2 : Int32) * (v_s (3 : Int32).toNatClampNeg))).toNatClampNeg x1) (3 : Int32).toNatClampNeg))) + (1 : Int32)).toNatClampNeg x2) (3 : Int32).toNatClampNeg (((upd (upd v_s ((77 : Int32) + ((2 : Int32) * (v_s (3 : Int32).toNatClampNeg))).toNatClampNeg x1) (((77 : Int32) + ((2 : Int32) * ((upd v_s ((77 : Int32) + ((2 : Int32) * (v_s (3 : Int32).toNatClampNeg))).toNatClampNeg x1) (3 : Int32).toNatClampNeg))) + (1 : Int32)).toNatClampNeg x2) (3 : Int32).toNatClampNeg) + (1 : Int32))) _ _ _ dX11_step_100 h hw
  · have h := h.2 c4
    refine lv_aload_n hx hb dX11_step_42 rfl (lv_at hl 0 rfl) ?_
    refine lv_iload_n hx hb dX11_step_43 rfl (lv_at hl 3 rfl) ?_
    refine g_cvi (rm := { frames := 1, cells := 0, slots := 0, locals := 64 }) (wn := (fun (u : IA) => (w_X11_step cy a_this a_refusals a_s w_image w_read w_tape w_told w_met w_best w_kept w_squares w_far w_queue u v_s v_isImage v_taped v_at v_wrongHour v_wrongThing v_soonest v_bestSteps))) (As := [.int x3]) ha hw hl.1 (c_X11_refuse (cy := cy)) (cwV 1 ha.2.2.2.2.1 gX11_step_X11_refuse rfl rfl rfl hq_X11_refuse ⟨Nat.le_of_ble_eq_true rfl, Nat.le_of_ble_eq_true rfl⟩) [0, 1] [2] [1, 2, 0] rfl rfl rfl rfl (by decide) rfl (fun _ => rfl) rfl rfl h rfl rfl (Nat.le_of_ble_eq_true rfl) dX11_step_44 ⟨Nat.le_refl _, Nat.le_refl _⟩ (fun r7 u H locs h hw => ?_)
    obtain ⟨v_refusals_8, rfl⟩ : ∃ z, z = u := ⟨_, rfl⟩
    have hw : wd D A s.heap (w_X11_step cy a_this a_refusals a_s w_image w_read w_tape w_told w_met w_best w_kept w_squares w_far w_queue v_refusals_8 v_s v_isImage v_taped v_at v_wrongHour v_wrongThing v_soonest v_bestSteps) H locs := hw
    try dsimp only at h
    exact hr _ _ (v_refusals_8, v_s) _ _ _ dX11_step_47 h hw
def wp_X11_step_19 (x1 : Int32) (x2 : Int32) (K : Int32 → IA → IA → Prop) (v_refusals : IA) (v_s : IA) (t0 : Int32) : Prop := (t0 = 0 → ((v_s (3 : Int32).toNatClampNeg) = (8 : Int32) → wp_X11_step_38 x1 x2 (-6 : Int32) K v_refusals v_s) ∧ (¬ ((v_s (3 : Int32).toNatClampNeg) = (8 : Int32)) → wp_X11_step_38 x1 x2 t0 K v_refusals v_s)) ∧ (¬ (t0 = 0) → wp_X11_step_38 x1 x2 t0 K v_refusals v_s)
set_option maxHeartbeats 4000000 in
set_option maxRecDepth 100000 in
theorem pl_X11_step_19 {p : Program} {l : Launch} {e : Env} {s : State} {m : MethodId} {args : Array Value} {below : List Frame} {meth : Method} {c : Code} {A : Nat → Prop} {Q : State → Prop} {D : va_G} {cy : ClassId} {a_this a_refusals a_s : Nat} {w_image w_read w_tape w_told w_met w_best w_kept w_squares w_far w_queue : Value} {v_isImage : Int32} {v_taped : Int32} {v_at : Int32} {v_wrongHour : Int32} {v_wrongThing : Int32} {v_soonest : Int32} {v_bestSteps : Int32} {x1 : Int32} {x2 : Int32} {K : Int32 → IA → IA → Prop} (ha : am p s m args c cX11_step 4 RX11 wsX11_step D cy A) (hr : rtI p l e { frames := 4, cells := 0, slots := 0, locals := 319 } s m args below meth c 0 0 Q cX11_step D A (fun (u : IA × IA) => (w_X11_step cy a_this a_refusals a_s w_image w_read w_tape w_told w_met w_best w_kept w_squares w_far w_queue u.1 u.2 v_isImage v_taped v_at v_wrongHour v_wrongThing v_soonest v_bestSteps)) (fun (r : Int32) (u : IA × IA) => K r u.1 u.2)) {v_refusals : IA} {v_s : IA} {t0 : Int32} {H : Heap} {locs : List Loc} {ls : Array Slot} : wp_X11_step_19 x1 x2 K v_refusals v_s t0 → wd D A s.heap (w_X11_step cy a_this a_refusals a_s w_image w_read w_tape w_told w_met w_best w_kept w_squares w_far w_queue v_refusals v_s v_isImage v_taped v_at v_wrongHour v_wrongThing v_soonest v_bestSteps) H locs → lv_has ls 4 [(0, .ref a_this), (1, .int x1), (2, .int x2)] → W p l e { frames := 4, cells := 0, slots := 0, locals := 319 } s m args below meth c H locs 0 0 Q (F0 m 19 ls [.int t0]) := by
  have hx := ha.1
  have hb := ha.2.1
  intro h hw hl
  have h : (t0 = 0 → ((v_s (3 : Int32).toNatClampNeg) = (8 : Int32) → wp_X11_step_38 x1 x2 (-6 : Int32) K v_refusals v_s) ∧ (¬ ((v_s (3 : Int32).toNatClampNeg) = (8 : Int32)) → wp_X11_step_38 x1 x2 t0 K v_refusals v_s)) ∧ (¬ (t0 = 0) → wp_X11_step_38 x1 x2 t0 K v_refusals v_s) := h
  refine lv_istore_n (lv' := [(3, .int t0), (0, .ref a_this), (1, .int x1), (2, .int x2)]) hx hb dX11_step_19 rfl hl (by decide) rfl (fun ls hl => ?_)
  refine lv_iload_n hx hb dX11_step_20 rfl (lv_at hl 0 rfl) ?_
  refine lv_if_ne (tgt := 38) hx hb dX11_step_21 (by decide) (fun c3 => ?_) (fun c3 => ?_)
  · have h := h.2 c3
    refine pl_X11_step_38 ha hr h hw (lv_sub hl [1, 2, 3, 0] rfl)
  · have h := h.1 c3
    refine lv_aload_n hx hb dX11_step_24 rfl (lv_at hl 1 rfl) ?_
    refine g_get (ci := 11) ha hw 0 1 rfl hi_X11_step_11 (by decide) (List.mem_of_getElem? (i := 1) rfl) rfl rfl dX11_step_25 ?_
    refine lv_iconst (v := (3 : Int32)) hx hb dX11_step_28 (by decide) ?_
    refine g_ald ha hw 2 rfl (vp_in_iff.mpr (by decide)) dX11_step_29 ?_
    refine lv_bipush (v := (8 : Int32)) hx hb dX11_step_30 (by decide) ?_
    refine lv_icmp_ne (tgt := 38) hx hb dX11_step_32 (by decide) (fun c9 => ?_) (fun c9 => ?_)
    · have h := h.2 c9
      refine pl_X11_step_38 ha hr h hw (lv_sub hl [1, 2, 3, 0] rfl)
    · have h := h.1 c9
      refine lv_bipush (v := (-6 : Int32)) hx hb dX11_step_35 (by decide) ?_
      refine lv_istore_n (lv' := [(3, .int (-6 : Int32)), (0, .ref a_this), (1, .int x1), (2, .int x2)]) hx hb dX11_step_37 rfl hl (by decide) rfl (fun ls hl => ?_)
      refine pl_X11_step_38 ha hr h hw (lv_sub hl [1, 2, 3, 0] rfl)
def wp_X11_step (x1 : Int32) (x2 : Int32) (v_refusals : IA) (v_s : IA) (K : Int32 → IA → IA → Prop) : Prop := wp_X11_isRoom x1 v_s (fun (r1 : Int32) => (r1 = 0 → wp_X11_step_19 x1 x2 K v_refusals v_s (-1 : Int32)) ∧ (¬ (r1 = 0) → wp_X11_within x2 (0 : Int32) (99 : Int32) (fun (r10 : Int32) => wp_X11_step_19 x1 x2 K v_refusals v_s r10)))
set_option maxHeartbeats 4000000 in
set_option maxRecDepth 100000 in
theorem c_X11_step {l : Launch} {D : va_G} {cy : ClassId} {a_this a_refusals a_s : Nat} {w_image w_read w_tape w_told w_met w_best w_kept w_squares w_far w_queue : Value} {v_refusals : IA} {v_s : IA} {v_isImage : Int32} {v_taped : Int32} {v_at : Int32} {v_wrongHour : Int32} {v_wrongThing : Int32} {v_soonest : Int32} {v_bestSteps : Int32} {x1 : Int32} {x2 : Int32} {K : Int32 → IA → IA → Prop} : CtI l yX11_step wsX11_step { frames := 4, cells := 0, slots := 0, locals := 319 } 0 0 D cy [.ref a_this, .int x1, .int x2] (w_X11_step cy a_this a_refusals a_s w_image w_read w_tape w_told w_met w_best w_kept w_squares w_far w_queue v_refusals v_s v_isImage v_taped v_at v_wrongHour v_wrongThing v_soonest v_bestSteps) (wp_X11_step x1 x2 v_refusals v_s K) (fun (u : IA × IA) => (w_X11_step cy a_this a_refusals a_s w_image w_read w_tape w_told w_met w_best w_kept w_squares w_far w_queue u.1 u.2 v_isImage v_taped v_at v_wrongHour v_wrongThing v_soonest v_bestSteps)) (fun (r : Int32) (u : IA × IA) => K r u.1 u.2) := by
  refine CtI.mk (cc := cX11_step) (nL := 4) (ty := .int) (by decide) rfl (Nat.le_of_ble_eq_true rfl) (fun r u h => rfl) ?_
  intro p e s m args below meth c A Q ha hr _ h ls hl hw
  have ha : am p s m args c cX11_step 4 RX11 wsX11_step D cy A := ha
  have hx := ha.1
  have hb := ha.2.1
  have hl : lv_has ls 4 [(0, .ref a_this), (1, .int x1), (2, .int x2)] := hl
  have h : wp_X11_isRoom x1 v_s (fun (r1 : Int32) => (r1 = 0 → wp_X11_step_19 x1 x2 K v_refusals v_s (-1 : Int32)) ∧ (¬ (r1 = 0) → wp_X11_within x2 (0 : Int32) (99 : Int32) (fun (r10 : Int32) => wp_X11_step_19 x1 x2 K v_refusals v_s r10))) := h
  refine lv_aload_n hx hb dX11_step_0 rfl (lv_at hl 0 rfl) ?_
  refine lv_iload_n hx hb dX11_step_1 rfl (lv_at hl 1 rfl) ?_
  refine g_cvi (rm := { frames := 3, cells := 0, slots := 0, locals := 234 }) (wn := (fun (u : Unit) => (w_X11_step cy a_this a_refusals a_s w_image w_read w_tape w_told w_met w_best w_kept w_squares w_far w_queue v_refusals v_s v_isImage v_taped v_at v_wrongHour v_wrongThing v_soonest v_bestSteps))) (As := [.int x1]) ha hw hl.1 (c_X11_isRoom (cy := cy)) (cwV 1 ha.2.2.2.2.1 gX11_step_X11_isRoom rfl rfl rfl hq_X11_isRoom ⟨Nat.le_of_ble_eq_true rfl, Nat.le_of_ble_eq_true rfl⟩) [0, 2] [1] [1, 0, 2] rfl rfl rfl rfl (by decide) rfl (fun _ => rfl) rfl rfl h rfl rfl (Nat.le_of_ble_eq_true rfl) dX11_step_2 ⟨Nat.le_refl _, Nat.le_refl _⟩ (fun r1 u H locs h hw => ?_)
  have hw : wd D A s.heap (w_X11_step cy a_this a_refusals a_s w_image w_read w_tape w_told w_met w_best w_kept w_squares w_far w_queue v_refusals v_s v_isImage v_taped v_at v_wrongHour v_wrongThing v_soonest v_bestSteps) H locs := hw
  obtain ⟨zr1, h⟩ := h
  try dsimp only at h
  refine lv_if_eq (tgt := 18) hx hb dX11_step_5 (by decide) (fun c2 => ?_) (fun c2 => ?_)
  · have h := h.1 c2
    refine lv_iconst (v := (-1 : Int32)) hx hb dX11_step_18 (by decide) ?_
    refine pl_X11_step_19 ha hr h hw (lv_sub hl [0, 1, 2] rfl)
  · have h := h.2 c2
    refine lv_iload_n hx hb dX11_step_8 rfl (lv_at hl 2 rfl) ?_
    refine lv_iconst (v := (0 : Int32)) hx hb dX11_step_9 (by decide) ?_
    refine lv_bipush (v := (99 : Int32)) hx hb dX11_step_10 (by decide) ?_
    refine g_csi (rm := { frames := 1, cells := 0, slots := 0, locals := 64 }) (wn := (fun (u : Unit) => (w_X11_step cy a_this a_refusals a_s w_image w_read w_tape w_told w_met w_best w_kept w_squares w_far w_queue v_refusals v_s v_isImage v_taped v_at v_wrongHour v_wrongThing v_soonest v_bestSteps))) (As := [.int x2, .int (0 : Int32), .int (99 : Int32)]) ha hw hl.1 (c_X11_within (cy := cy)) (va_cwS 3 ha.2.2.2.2.1 gX11_step_X11_within rfl rfl rfl hq_X11_within ⟨Nat.le_of_ble_eq_true rfl, Nat.le_of_ble_eq_true rfl⟩) [] [0, 1, 2] [0, 1, 2] rfl rfl rfl rfl (by decide) rfl (fun _ => rfl) h rfl rfl (Nat.le_of_ble_eq_true rfl) dX11_step_12 ⟨Nat.le_refl _, Nat.le_refl _⟩ (fun r10 u H locs h hw => ?_)
    have hw : wd D A s.heap (w_X11_step cy a_this a_refusals a_s w_image w_read w_tape w_told w_met w_best w_kept w_squares w_far w_queue v_refusals v_s v_isImage v_taped v_at v_wrongHour v_wrongThing v_soonest v_bestSteps) H locs := hw
    try dsimp only at h
    refine lv_goto (tgt := 19) hx hb dX11_step_15 (by decide) ?_
    refine pl_X11_step_19 ha hr h hw (lv_sub hl [0, 1, 2] rfl)
