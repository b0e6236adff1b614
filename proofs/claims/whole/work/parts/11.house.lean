theorem hq_X1_become : yX1_become.cls = RX1 ∧ yX1_become.cls ≠ "java/lang/invoke/MethodHandle" ∧ yX1_become.cls ≠ "java/lang/invoke/VarHandle" ∧ (parseMethodDescriptor yX1_become.desc).map (fun d => d.parameters.length) = some 1 := by decide +kernel
def w_X1_become (cy : ClassId) (a_this a_work a_coats a_beside a_needParts a_o1 a_o1_work a_o1_coats a_o1_beside a_o1_needParts : Nat) (v_rooms : Int32) (v_doors : Int32) (v_needs : Int32) (v_work : IA) (v_coats : IA) (v_beside : IA) (v_needParts : IA) (v_o1_rooms : Int32) (v_o1_doors : Int32) (v_o1_needs : Int32) (v_o1_work : IA) (v_o1_coats : IA) (v_o1_beside : IA) (v_o1_needParts : IA) : va_W := [(a_this, .inr (1, [.int v_rooms, .int v_doors, .int v_needs, .ref a_work, .ref a_coats, .ref a_beside, .ref a_needParts])), (a_work, .inl (cy, 6, .inl v_work)), (a_coats, .inl (cy, 6, .inl v_coats)), (a_beside, .inl (cy, 6, .inl v_beside)), (a_needParts, .inl (cy, 32, .inl v_needParts)), (a_o1, .inr (1, [.int v_o1_rooms, .int v_o1_doors, .int v_o1_needs, .ref a_o1_work, .ref a_o1_coats, .ref a_o1_beside, .ref a_o1_needParts])), (a_o1_work, .inl (cy, 6, .inl v_o1_work)), (a_o1_coats, .inl (cy, 6, .inl v_o1_coats)), (a_o1_beside, .inl (cy, 6, .inl v_o1_beside)), (a_o1_needParts, .inl (cy, 32, .inl v_o1_needParts))]
theorem hi_X1_become_1 : ∀ w ∈ u_ws RX1 TX1 7, w ∈ wsX1_become := fun _ h => List.mem_cons_of_mem _ (List.mem_append_right _ h)
def wp_X1_become (v_rooms : Int32) (v_doors : Int32) (v_needs : Int32) (v_work : IA) (v_coats : IA) (v_beside : IA) (v_needParts : IA) (v_o1_rooms : Int32) (v_o1_doors : Int32) (v_o1_needs : Int32) (v_o1_work : IA) (v_o1_coats : IA) (v_o1_beside : IA) (v_o1_needParts : IA) (K : Int32 → Int32 → Int32 → IA → IA → IA → IA → Prop) : Prop := K v_o1_rooms v_o1_doors v_o1_needs (va_cpy v_o1_work v_work 0 0 6) (va_cpy v_o1_coats v_coats 0 0 6) (va_cpy v_o1_beside v_beside 0 0 6) (va_cpy v_o1_needParts v_needParts 0 0 32)
set_option maxHeartbeats 4000000 in
set_option maxRecDepth 100000 in
theorem c_X1_become {l : Launch} {D : va_G} {cy : ClassId} {a_this a_work a_coats a_beside a_needParts a_o1 a_o1_work a_o1_coats a_o1_beside a_o1_needParts : Nat} {v_rooms : Int32} {v_doors : Int32} {v_needs : Int32} {v_work : IA} {v_coats : IA} {v_beside : IA} {v_needParts : IA} {v_o1_rooms : Int32} {v_o1_doors : Int32} {v_o1_needs : Int32} {v_o1_work : IA} {v_o1_coats : IA} {v_o1_beside : IA} {v_o1_needParts : IA} {K : Int32 → Int32 → Int32 → IA → IA → IA → IA → Prop} : CtV l yX1_become wsX1_become { frames := 1, cells := 0, slots := 0, locals := 64 } 0 0 D cy [.ref a_this, .ref a_o1] (w_X1_become cy a_this a_work a_coats a_beside a_needParts a_o1 a_o1_work a_o1_coats a_o1_beside a_o1_needParts v_rooms v_doors v_needs v_work v_coats v_beside v_needParts v_o1_rooms v_o1_doors v_o1_needs v_o1_work v_o1_coats v_o1_beside v_o1_needParts) (wp_X1_become v_rooms v_doors v_needs v_work v_coats v_beside v_needParts v_o1_rooms v_o1_doors v_o1_needs v_o1_work v_o1_coats v_o1_beside v_o1_needParts K) (fun (u : Int32 × Int32 × Int32 × IA × IA × IA × IA) => (w_X1_become cy a_this a_work a_coats a_beside a_needParts a_o1 a_o1_work a_o1_coats a_o1_beside a_o1_needParts u.1 u.2.1 u.2.2.1 u.2.2.2.1 u.2.2.2.2.1 u.2.2.2.2.2.1 u.2.2.2.2.2.2 v_o1_rooms v_o1_doors v_o1_needs v_o1_work v_o1_coats v_o1_beside v_o1_needParts)) (fun (u : Int32 × Int32 × Int32 × IA × IA × IA × IA) => K u.1 u.2.1 u.2.2.1 u.2.2.2.1 u.2.2.2.2.1 u.2.2.2.2.2.1 u.2.2.2.2.2.2) := by
  refine CtV.mk (cc := cX1_become) (nL := 2) (by decide) rfl (Nat.le_of_ble_eq_true rfl) ?_
  intro p e s m args below meth c A Q ha hr _ h ls hl hw
  have ha : am p s m args c cX1_become 2 RX1 wsX1_become D cy A := ha
  have hx := ha.1
  have hb := ha.2.1
  have hl : lv_has ls 2 [(0, .ref a_this), (1, .ref a_o1)] := hl
  have h : K v_o1_rooms v_o1_doors v_o1_needs (va_cpy v_o1_work v_work 0 0 6) (va_cpy v_o1_coats v_coats 0 0 6) (va_cpy v_o1_beside v_beside 0 0 6) (va_cpy v_o1_needParts v_needParts 0 0 32) := h
  refine lv_aload_n hx hb dX1_become_0 rfl (lv_at hl 0 rfl) ?_
  refine lv_aload_n hx hb dX1_become_1 rfl (lv_at hl 1 rfl) ?_
  refine g_get (ci := 1) ha hw 5 0 rfl hi_X1_become_1 (by decide) (List.mem_of_getElem? (i := 1) rfl) rfl rfl dX1_become_2 ?_
  refine g_put (ci := 1) (wn := (w_X1_become cy a_this a_work a_coats a_beside a_needParts a_o1 a_o1_work a_o1_coats a_o1_beside a_o1_needParts v_o1_rooms v_doors v_needs v_work v_coats v_beside v_needParts v_o1_rooms v_o1_doors v_o1_needs v_o1_work v_o1_coats v_o1_beside v_o1_needParts)) ha hw 0 0 rfl hi_X1_become_1 tyX1_ok nmX1 (by decide) (List.mem_of_getElem? (i := 1) rfl) rfl rfl rfl rfl (Nat.le_of_ble_eq_true rfl) rfl dX1_become_5 (fun H locs hw => ?_)
  refine lv_aload_n hx hb dX1_become_8 rfl (lv_at hl 0 rfl) ?_
  refine lv_aload_n hx hb dX1_become_9 rfl (lv_at hl 1 rfl) ?_
  refine g_get (ci := 1) ha hw 5 1 rfl hi_X1_become_1 (by decide) (List.mem_of_getElem? (i := 2) rfl) rfl rfl dX1_become_10 ?_
  refine g_put (ci := 1) (wn := (w_X1_become cy a_this a_work a_coats a_beside a_needParts a_o1 a_o1_work a_o1_coats a_o1_beside a_o1_needParts v_o1_rooms v_o1_doors v_needs v_work v_coats v_beside v_needParts v_o1_rooms v_o1_doors v_o1_needs v_o1_work v_o1_coats v_o1_beside v_o1_needParts)) ha hw 0 1 rfl hi_X1_become_1 tyX1_ok nmX1 (by decide) (List.mem_of_getElem? (i := 2) rfl) rfl rfl rfl rfl (Nat.le_of_ble_eq_true rfl) rfl dX1_become_13 (fun H locs hw => ?_)
  refine lv_aload_n hx hb dX1_become_16 rfl (lv_at hl 0 rfl) ?_
  refine lv_aload_n hx hb dX1_become_17 rfl (lv_at hl 1 rfl) ?_
  refine g_get (ci := 1) ha hw 5 2 rfl hi_X1_become_1 (by decide) (List.mem_of_getElem? (i := 3) rfl) rfl rfl dX1_become_18 ?_
  refine g_put (ci := 1) (wn := (w_X1_become cy a_this a_work a_coats a_beside a_needParts a_o1 a_o1_work a_o1_coats a_o1_beside a_o1_needParts v_o1_rooms v_o1_doors v_o1_needs v_work v_coats v_beside v_needParts v_o1_rooms v_o1_doors v_o1_needs v_o1_work v_o1_coats v_o1_beside v_o1_needParts)) ha hw 0 2 rfl hi_X1_become_1 tyX1_ok nmX1 (by decide) (List.mem_of_getElem? (i := 3) rfl) rfl rfl rfl rfl (Nat.le_of_ble_eq_true rfl) rfl dX1_become_21 (fun H locs hw => ?_)
  refine lv_aload_n hx hb dX1_become_24 rfl (lv_at hl 1 rfl) ?_
  refine g_get (ci := 1) ha hw 5 3 rfl hi_X1_become_1 (by decide) (List.mem_of_getElem? (i := 4) rfl) rfl rfl dX1_become_25 ?_
  refine lv_iconst (v := (0 : Int32)) hx hb dX1_become_28 (by decide) ?_
  refine lv_aload_n hx hb dX1_become_29 rfl (lv_at hl 0 rfl) ?_
  refine g_get (ci := 1) ha hw 0 3 rfl hi_X1_become_1 (by decide) (List.mem_of_getElem? (i := 4) rfl) rfl rfl dX1_become_30 ?_
  refine lv_iconst (v := (0 : Int32)) hx hb dX1_become_33 (by decide) ?_
  refine lv_bipush (v := (6 : Int32)) hx hb dX1_become_34 (by decide) ?_
  refine g_cpy (SP := 0) (DP := 0) (N := 6) (wn := (w_X1_become cy a_this a_work a_coats a_beside a_needParts a_o1 a_o1_work a_o1_coats a_o1_beside a_o1_needParts v_o1_rooms v_o1_doors v_o1_needs (va_cpy v_o1_work v_work 0 0 6) v_coats v_beside v_needParts v_o1_rooms v_o1_doors v_o1_needs v_o1_work v_o1_coats v_o1_beside v_o1_needParts)) ha hw hl.1 6 1 (List.mem_of_getElem? (i := 5) rfl) (List.mem_of_getElem? (i := 6) rfl) (List.mem_of_getElem? (i := 7) rfl) (List.mem_of_getElem? (i := 8) rfl) rfl rfl (by decide) (by decide) (by decide) (by decide) (by decide) (by decide) (by decide) (by decide) (Nat.le_of_ble_eq_true rfl) (Nat.le_of_ble_eq_true rfl) rfl dX1_become_36 (fun H locs hw => ?_)
  refine lv_aload_n hx hb dX1_become_39 rfl (lv_at hl 1 rfl) ?_
  refine g_get (ci := 1) ha hw 5 4 rfl hi_X1_become_1 (by decide) (List.mem_of_getElem? (i := 9) rfl) rfl rfl dX1_become_40 ?_
  refine lv_iconst (v := (0 : Int32)) hx hb dX1_become_43 (by decide) ?_
  refine lv_aload_n hx hb dX1_become_44 rfl (lv_at hl 0 rfl) ?_
  refine g_get (ci := 1) ha hw 0 4 rfl hi_X1_become_1 (by decide) (List.mem_of_getElem? (i := 9) rfl) rfl rfl dX1_become_45 ?_
  refine lv_iconst (v := (0 : Int32)) hx hb dX1_become_48 (by decide) ?_
  refine lv_bipush (v := (6 : Int32)) hx hb dX1_become_49 (by decide) ?_
  refine g_cpy (SP := 0) (DP := 0) (N := 6) (wn := (w_X1_become cy a_this a_work a_coats a_beside a_needParts a_o1 a_o1_work a_o1_coats a_o1_beside a_o1_needParts v_o1_rooms v_o1_doors v_o1_needs (va_cpy v_o1_work v_work 0 0 6) (va_cpy v_o1_coats v_coats 0 0 6) v_beside v_needParts v_o1_rooms v_o1_doors v_o1_needs v_o1_work v_o1_coats v_o1_beside v_o1_needParts)) ha hw hl.1 7 2 (List.mem_of_getElem? (i := 5) rfl) (List.mem_of_getElem? (i := 6) rfl) (List.mem_of_getElem? (i := 7) rfl) (List.mem_of_getElem? (i := 8) rfl) rfl rfl (by decide) (by decide) (by decide) (by decide) (by decide) (by decide) (by decide) (by decide) (Nat.le_of_ble_eq_true rfl) (Nat.le_of_ble_eq_true rfl) rfl dX1_become_51 (fun H locs hw => ?_)
  refine lv_aload_n hx hb dX1_become_54 rfl (lv_at hl 1 rfl) ?_
  refine g_get (ci := 1) ha hw 5 5 rfl hi_X1_become_1 (by decide) (List.mem_of_getElem? (i := 10) rfl) rfl rfl dX1_become_55 ?_
  refine lv_iconst (v := (0 : Int32)) hx hb dX1_become_58 (by decide) ?_
  refine lv_aload_n hx hb dX1_become_59 rfl (lv_at hl 0 rfl) ?_
  refine g_get (ci := 1) ha hw 0 5 rfl hi_X1_become_1 (by decide) (List.mem_of_getElem? (i := 10) rfl) rfl rfl dX1_become_60 ?_
  refine lv_iconst (v := (0 : Int32)) hx hb dX1_become_63 (by decide) ?_
  refine lv_bipush (v := (6 : Int32)) hx hb dX1_become_64 (by decide) ?_
  refine g_cpy (SP := 0) (DP := 0) (N := 6) (wn := (w_X1_become cy a_this a_work a_coats a_beside a_needParts a_o1 a_o1_work a_o1_coats a_o1_beside a_o1_needParts v_o1_rooms v_o1_doors v_o1_needs (va_cpy v_o1_work v_work 0 0 6) (va_cpy v_o1_coats v_coats 0 0 6) (va_cpy v_o1_beside v_beside 0 0 6) v_needParts v_o1_rooms v_o1_doors v_o1_needs v_o1_work v_o1_coats v_o1_beside v_o1_needParts)) ha hw hl.1 8 3 (List.mem_of_getElem? (i := 5) rfl) (List.mem_of_getElem? (i := 6) rfl) (List.mem_of_getElem? (i := 7) rfl) (List.mem_of_getElem? (i := 8) rfl) rfl rfl (by decide) (by decide) (by decide) (by decide) (by decide) (by decide) (by decide) (by decide) (Nat.le_of_ble_eq_true rfl) (Nat.le_of_ble_eq_true rfl) rfl dX1_become_66 (fun H locs hw => ?_)
  refine lv_aload_n hx hb dX1_become_69 rfl (lv_at hl 1 rfl) ?_
  refine g_get (ci := 1) ha hw 5 6 rfl hi_X1_become_1 (by decide) (List.mem_of_getElem? (i := 11) rfl) rfl rfl dX1_become_70 ?_
  refine lv_iconst (v := (0 : Int32)) hx hb dX1_become_73 (by decide) ?_
  refine lv_aload_n hx hb dX1_become_74 rfl (lv_at hl 0 rfl) ?_
  refine g_get (ci := 1) ha hw 0 6 rfl hi_X1_become_1 (by decide) (List.mem_of_getElem? (i := 11) rfl) rfl rfl dX1_become_75 ?_
  refine lv_iconst (v := (0 : Int32)) hx hb dX1_become_78 (by decide) ?_
  refine lv_aload_n hx hb dX1_become_79 rfl (lv_at hl 0 rfl) ?_
  refine g_get (ci := 1) ha hw 0 6 rfl hi_X1_become_1 (by decide) (List.mem_of_getElem? (i := 11) rfl) rfl rfl dX1_become_80 ?_
  refine g_alen (v := (32 : Int32)) ha hw 4 rfl (by decide) dX1_become_83 ?_
  refine g_cpy (SP := 0) (DP := 0) (N := 32) (wn := (w_X1_become cy a_this a_work a_coats a_beside a_needParts a_o1 a_o1_work a_o1_coats a_o1_beside a_o1_needParts v_o1_rooms v_o1_doors v_o1_needs (va_cpy v_o1_work v_work 0 0 6) (va_cpy v_o1_coats v_coats 0 0 6) (va_cpy v_o1_beside v_beside 0 0 6) (va_cpy v_o1_needParts v_needParts 0 0 32) v_o1_rooms v_o1_doors v_o1_needs v_o1_work v_o1_coats v_o1_beside v_o1_needParts)) ha hw hl.1 9 4 (List.mem_of_getElem? (i := 5) rfl) (List.mem_of_getElem? (i := 6) rfl) (List.mem_of_getElem? (i := 7) rfl) (List.mem_of_getElem? (i := 8) rfl) rfl rfl (by decide) (by decide) (by decide) (by decide) (by decide) (by decide) (by decide) (by decide) (Nat.le_of_ble_eq_true rfl) (Nat.le_of_ble_eq_true rfl) rfl dX1_become_84 (fun H locs hw => ?_)
  exact hr _ (v_o1_rooms, v_o1_doors, v_o1_needs, va_cpy v_o1_work v_work 0 0 6, va_cpy v_o1_coats v_coats 0 0 6, va_cpy v_o1_beside v_beside 0 0 6, va_cpy v_o1_needParts v_needParts 0 0 32) _ _ _ dX1_become_87 h hw
theorem hq_X1_hasPlace : yX1_hasPlace.cls = RX1 ∧ yX1_hasPlace.cls ≠ "java/lang/invoke/MethodHandle" ∧ yX1_hasPlace.cls ≠ "java/lang/invoke/VarHandle" ∧ (parseMethodDescriptor yX1_hasPlace.desc).map (fun d => d.parameters.length) = some 1 := by decide +kernel
def w_X1_hasPlace (cy : ClassId) (a_this : Nat) (w_work w_coats w_beside w_needParts : Value) (v_rooms : Int32) (v_doors : Int32) (v_needs : Int32) : va_W := [(a_this, .inr (1, [.int v_rooms, .int v_doors, .int v_needs, w_work, w_coats, w_beside, w_needParts]))]
theorem hi_X1_hasPlace_1 : ∀ w ∈ u_ws RX1 TX1 7, w ∈ wsX1_hasPlace := fun _ h => List.mem_cons_of_mem _ (List.mem_append_right _ h)
def wp_X1_hasPlace (x1 : Int32) (v_rooms : Int32) (K : Int32 → Prop) : Prop := (x1 < 0 → K (0 : Int32)) ∧ (¬ (x1 < 0) → (v_rooms < x1 → K (0 : Int32)) ∧ (¬ (v_rooms < x1) → K (1 : Int32)))
set_option maxHeartbeats 4000000 in
set_option maxRecDepth 100000 in
theorem c_X1_hasPlace {l : Launch} {D : va_G} {cy : ClassId} {a_this : Nat} {w_work w_coats w_beside w_needParts : Value} {v_rooms : Int32} {v_doors : Int32} {v_needs : Int32} {x1 : Int32} {K : Int32 → Prop} : CtI l yX1_hasPlace wsX1_hasPlace { frames := 1, cells := 0, slots := 0, locals := 64 } 0 0 D cy [.ref a_this, .int x1] (w_X1_hasPlace cy a_this w_work w_coats w_beside w_needParts v_rooms v_doors v_needs) (wp_X1_hasPlace x1 v_rooms K) (fun (u : Unit) => (w_X1_hasPlace cy a_this w_work w_coats w_beside w_needParts v_rooms v_doors v_needs)) (fun (r : Int32) (u : Unit) => nz r ∧ K r) := by
  refine CtI.mk (cc := cX1_hasPlace) (nL := 2) (ty := .boolean) (by decide) rfl (Nat.le_of_ble_eq_true rfl) (fun r u h => h.1.nar) ?_
  intro p e s m args below meth c A Q ha hr _ h ls hl hw
  have ha : am p s m args c cX1_hasPlace 2 RX1 wsX1_hasPlace D cy A := ha
  have hx := ha.1
  have hb := ha.2.1
  have hl : lv_has ls 2 [(0, .ref a_this), (1, .int x1)] := hl
  have h : (x1 < 0 → K (0 : Int32)) ∧ (¬ (x1 < 0) → (v_rooms < x1 → K (0 : Int32)) ∧ (¬ (v_rooms < x1) → K (1 : Int32))) := h
  refine lv_iload_n hx hb dX1_hasPlace_0 rfl (lv_at hl 1 rfl) ?_
  refine lv_if_lt (tgt := 16) hx hb dX1_hasPlace_1 (by decide) (fun c1 => ?_) (fun c1 => ?_)
  · have h := h.1 c1
    refine lv_iconst (v := (0 : Int32)) hx hb dX1_hasPlace_16 (by decide) ?_
    exact hr _ _ () _ _ _ dX1_hasPlace_17 ⟨nz0, h⟩ hw
  · have h := h.2 c1
    refine lv_iload_n hx hb dX1_hasPlace_4 rfl (lv_at hl 1 rfl) ?_
    refine lv_aload_n hx hb dX1_hasPlace_5 rfl (lv_at hl 0 rfl) ?_
    refine g_get (ci := 1) ha hw 0 0 rfl hi_X1_hasPlace_1 (by decide) (List.mem_of_getElem? (i := 1) rfl) rfl rfl dX1_hasPlace_6 ?_
    refine lv_icmp_gt (tgt := 16) hx hb dX1_hasPlace_9 (by decide) (fun c2 => ?_) (fun c2 => ?_)
    · have h := h.1 c2
      refine lv_iconst (v := (0 : Int32)) hx hb dX1_hasPlace_16 (by decide) ?_
      exact hr _ _ () _ _ _ dX1_hasPlace_17 ⟨nz0, h⟩ hw
    · have h := h.2 c2
      refine lv_iconst (v := (1 : Int32)) hx hb dX1_hasPlace_12 (by decide) ?_
      refine lv_goto (tgt := 17) hx hb dX1_hasPlace_13 (by decide) ?_
      exact hr _ _ () _ _ _ dX1_hasPlace_17 ⟨nz1, h⟩ hw
theorem hq_X1_hasRoom : yX1_hasRoom.cls = RX1 ∧ yX1_hasRoom.cls ≠ "java/lang/invoke/MethodHandle" ∧ yX1_hasRoom.cls ≠ "java/lang/invoke/VarHandle" ∧ (parseMethodDescriptor yX1_hasRoom.desc).map (fun d => d.parameters.length) = some 1 := by decide +kernel
def w_X1_hasRoom (cy : ClassId) (a_this : Nat) (w_work w_coats w_beside w_needParts : Value) (v_rooms : Int32) (v_doors : Int32) (v_needs : Int32) : va_W := [(a_this, .inr (1, [.int v_rooms, .int v_doors, .int v_needs, w_work, w_coats, w_beside, w_needParts]))]
theorem hi_X1_hasRoom_1 : ∀ w ∈ u_ws RX1 TX1 7, w ∈ wsX1_hasRoom := fun _ h => List.mem_cons_of_mem _ (List.mem_append_right _ h)
def wp_X1_hasRoom (x1 : Int32) (v_rooms : Int32) (K : Int32 → Prop) : Prop := (x1 ≤ 0 → K (0 : Int32)) ∧ (¬ (x1 ≤ 0) → (v_rooms < x1 → K (0 : Int32)) ∧ (¬ (v_rooms < x1) → K (1 : Int32)))
set_option maxHeartbeats 4000000 in
set_option maxRecDepth 100000 in
theorem c_X1_hasRoom {l : Launch} {D : va_G} {cy : ClassId} {a_this : Nat} {w_work w_coats w_beside w_needParts : Value} {v_rooms : Int32} {v_doors : Int32} {v_needs : Int32} {x1 : Int32} {K : Int32 → Prop} : CtI l yX1_hasRoom wsX1_hasRoom { frames := 1, cells := 0, slots := 0, locals := 64 } 0 0 D cy [.ref a_this, .int x1] (w_X1_hasRoom cy a_this w_work w_coats w_beside w_needParts v_rooms v_doors v_needs) (wp_X1_hasRoom x1 v_rooms K) (fun (u : Unit) => (w_X1_hasRoom cy a_this w_work w_coats w_beside w_needParts v_rooms v_doors v_needs)) (fun (r : Int32) (u : Unit) => nz r ∧ K r) := by
  refine CtI.mk (cc := cX1_hasRoom) (nL := 2) (ty := .boolean) (by decide) rfl (Nat.le_of_ble_eq_true rfl) (fun r u h => h.1.nar) ?_
  intro p e s m args below meth c A Q ha hr _ h ls hl hw
  have ha : am p s m args c cX1_hasRoom 2 RX1 wsX1_hasRoom D cy A := ha
  have hx := ha.1
  have hb := ha.2.1
  have hl : lv_has ls 2 [(0, .ref a_this), (1, .int x1)] := hl
  have h : (x1 ≤ 0 → K (0 : Int32)) ∧ (¬ (x1 ≤ 0) → (v_rooms < x1 → K (0 : Int32)) ∧ (¬ (v_rooms < x1) → K (1 : Int32))) := h
  refine lv_iload_n hx hb dX1_hasRoom_0 rfl (lv_at hl 1 rfl) ?_
  refine lv_if_le (tgt := 16) hx hb dX1_hasRoom_1 (by decide) (fun c1 => ?_) (fun c1 => ?_)
  · have h := h.1 c1
    refine lv_iconst (v := (0 : Int32)) hx hb dX1_hasRoom_16 (by decide) ?_
    exact hr _ _ () _ _ _ dX1_hasRoom_17 ⟨nz0, h⟩ hw
  · have h := h.2 c1
    refine lv_iload_n hx hb dX1_hasRoom_4 rfl (lv_at hl 1 rfl) ?_
    refine lv_aload_n hx hb dX1_hasRoom_5 rfl (lv_at hl 0 rfl) ?_
    refine g_get (ci := 1) ha hw 0 0 rfl hi_X1_hasRoom_1 (by decide) (List.mem_of_getElem? (i := 1) rfl) rfl rfl dX1_hasRoom_6 ?_
    refine lv_icmp_gt (tgt := 16) hx hb dX1_hasRoom_9 (by decide) (fun c2 => ?_) (fun c2 => ?_)
    · have h := h.1 c2
      refine lv_iconst (v := (0 : Int32)) hx hb dX1_hasRoom_16 (by decide) ?_
      exact hr _ _ () _ _ _ dX1_hasRoom_17 ⟨nz0, h⟩ hw
    · have h := h.2 c2
      refine lv_iconst (v := (1 : Int32)) hx hb dX1_hasRoom_12 (by decide) ?_
      refine lv_goto (tgt := 17) hx hb dX1_hasRoom_13 (by decide) ?_
      exact hr _ _ () _ _ _ dX1_hasRoom_17 ⟨nz1, h⟩ hw
theorem hq_X1_everyPlace : yX1_everyPlace.cls = RX1 ∧ yX1_everyPlace.cls ≠ "java/lang/invoke/MethodHandle" ∧ yX1_everyPlace.cls ≠ "java/lang/invoke/VarHandle" ∧ (parseMethodDescriptor yX1_everyPlace.desc).map (fun d => d.parameters.length) = some 0 := by decide +kernel
def w_X1_everyPlace (cy : ClassId) (a_this : Nat) (w_work w_coats w_beside w_needParts : Value) (v_rooms : Int32) (v_doors : Int32) (v_needs : Int32) : va_W := [(a_this, .inr (1, [.int v_rooms, .int v_doors, .int v_needs, w_work, w_coats, w_beside, w_needParts]))]
theorem hi_X1_everyPlace_1 : ∀ w ∈ u_ws RX1 TX1 7, w ∈ wsX1_everyPlace := fun _ h => List.mem_cons_of_mem _ (List.mem_append_right _ h)
def wp_X1_everyPlace (v_rooms : Int32) (K : Int32 → Prop) : Prop := K (((1 : Int32) <<< ((v_rooms + (1 : Int32)) &&& 31)) - (1 : Int32))
set_option maxHeartbeats 4000000 in
set_option maxRecDepth 100000 in
theorem c_X1_everyPlace {l : Launch} {D : va_G} {cy : ClassId} {a_this : Nat} {w_work w_coats w_beside w_needParts : Value} {v_rooms : Int32} {v_doors : Int32} {v_needs : Int32} {K : Int32 → Prop} : CtI l yX1_everyPlace wsX1_everyPlace { frames := 1, cells := 0, slots := 0, locals := 64 } 0 0 D cy [.ref a_this] (w_X1_everyPlace cy a_this w_work w_coats w_beside w_needParts v_rooms v_doors v_needs) (wp_X1_everyPlace v_rooms K) (fun (u : Unit) => (w_X1_everyPlace cy a_this w_work w_coats w_beside w_needParts v_rooms v_doors v_needs)) (fun (r : Int32) (u : Unit) => K r) := by
  refine CtI.mk (cc := cX1_everyPlace) (nL := 1) (ty := .int) (by decide) rfl (Nat.le_of_ble_eq_true rfl) (fun r u h => rfl) ?_
  intro p e s m args below meth c A Q ha hr _ h ls hl hw
  have ha : am p s m args c cX1_everyPlace 1 RX1 wsX1_everyPlace D cy A := ha
  have hx := ha.1
  have hb := ha.2.1
  have hl : lv_has ls 1 [(0, .ref a_this)] := hl
  have h : K (((1 : Int32) <<< ((v_rooms + (1 : Int32)) &&& 31)) - (1 : Int32)) := h
  refine lv_iconst (v := (1 : Int32)) hx hb dX1_everyPlace_0 (by decide) ?_
  refine lv_aload_n hx hb dX1_everyPlace_1 rfl (lv_at hl 0 rfl) ?_
  refine g_get (ci := 1) ha hw 0 0 rfl hi_X1_everyPlace_1 (by decide) (List.mem_of_getElem? (i := 1) rfl) rfl rfl dX1_everyPlace_2 ?_
  refine lv_iconst (v := (1 : Int32)) hx hb dX1_everyPlace_5 (by decide) ?_
  refine lv_iadd hx hb dX1_everyPlace_6 ?_
  refine lv_ishl hx hb dX1_everyPlace_7 ?_
  refine lv_iconst (v := (1 : Int32)) hx hb dX1_everyPlace_8 (by decide) ?_
  refine lv_isub hx hb dX1_everyPlace_9 ?_
  exact hr _ _ () _ _ _ dX1_everyPlace_10 h hw
theorem hq_X1_everyRoom : yX1_everyRoom.cls = RX1 ∧ yX1_everyRoom.cls ≠ "java/lang/invoke/MethodHandle" ∧ yX1_everyRoom.cls ≠ "java/lang/invoke/VarHandle" ∧ (parseMethodDescriptor yX1_everyRoom.desc).map (fun d => d.parameters.length) = some 0 := by decide +kernel
def w_X1_everyRoom (cy : ClassId) (a_this : Nat) (w_work w_coats w_beside w_needParts : Value) (v_rooms : Int32) (v_doors : Int32) (v_needs : Int32) : va_W := [(a_this, .inr (1, [.int v_rooms, .int v_doors, .int v_needs, w_work, w_coats, w_beside, w_needParts]))]
def wp_X1_everyRoom (v_rooms : Int32) (K : Int32 → Prop) : Prop := wp_X1_everyPlace v_rooms (fun (r1 : Int32) => K (r1 &&& (-2 : Int32)))
set_option maxHeartbeats 4000000 in
set_option maxRecDepth 100000 in
theorem c_X1_everyRoom {l : Launch} {D : va_G} {cy : ClassId} {a_this : Nat} {w_work w_coats w_beside w_needParts : Value} {v_rooms : Int32} {v_doors : Int32} {v_needs : Int32} {K : Int32 → Prop} : CtI l yX1_everyRoom wsX1_everyRoom { frames := 2, cells := 0, slots := 0, locals := 148 } 0 0 D cy [.ref a_this] (w_X1_everyRoom cy a_this w_work w_coats w_beside w_needParts v_rooms v_doors v_needs) (wp_X1_everyRoom v_rooms K) (fun (u : Unit) => (w_X1_everyRoom cy a_this w_work w_coats w_beside w_needParts v_rooms v_doors v_needs)) (fun (r : Int32) (u : Unit) => K r) := by
  refine CtI.mk (cc := cX1_everyRoom) (nL := 1) (ty := .int) (by decide) rfl (Nat.le_of_ble_eq_true rfl) (fun r u h => rfl) ?_
  intro p e s m args below meth c A Q ha hr _ h ls hl hw
  have ha : am p s m args c cX1_everyRoom 1 RX1 wsX1_everyRoom D cy A := ha
  have hx := ha.1
  have hb := ha.2.1
  have hl : lv_has ls 1 [(0, .ref a_this)] := hl
  have h : wp_X1_everyPlace v_rooms (fun (r1 : Int32) => K (r1 &&& (-2 : Int32))) := h
  refine lv_aload_n hx hb dX1_everyRoom_0 rfl (lv_at hl 0 rfl) ?_
  refine g_cvi (rm := { frames := 1, cells := 0, slots := 0, locals := 64 }) (wn := (fun (u : Unit) => (w_X1_everyRoom cy a_this w_work w_coats w_beside w_needParts v_rooms v_doors v_needs))) (As := []) ha hw hl.1 (c_X1_everyPlace (cy := cy)) (cwV 0 ha.2.2.2.2.1 gX1_everyRoom_X1_everyPlace rfl rfl rfl hq_X1_everyPlace ⟨Nat.le_of_ble_eq_true rfl, Nat.le_of_ble_eq_true rfl⟩) [0] [] [0] rfl rfl rfl rfl (by decide) rfl (fun _ => rfl) rfl rfl h rfl rfl (Nat.le_of_ble_eq_true rfl) dX1_everyRoom_1 ⟨Nat.le_refl _, Nat.le_refl _⟩ (fun r1 u H locs h hw => ?_)
  have hw : wd D A s.heap (w_X1_everyRoom cy a_this w_work w_coats w_beside w_needParts v_rooms v_doors v_needs) H locs := hw
  try dsimp only at h
  refine lv_bipush (v := (-2 : Int32)) hx hb dX1_everyRoom_4 (by decide) ?_
  refine lv_iand hx hb dX1_everyRoom_6 ?_
  exact hr _ _ () _ _ _ dX1_everyRoom_7 h hw
theorem hq_X1_joined : yX1_joined.cls = RX1 ∧ yX1_joined.cls ≠ "java/lang/invoke/MethodHandle" ∧ yX1_joined.cls ≠ "java/lang/invoke/VarHandle" ∧ (parseMethodDescriptor yX1_joined.desc).map (fun d => d.parameters.length) = some 2 := by decide +kernel
def w_X1_joined (cy : ClassId) (a_this a_beside : Nat) (w_work w_coats w_needParts : Value) (v_rooms : Int32) (v_doors : Int32) (v_needs : Int32) (v_beside : IA) : va_W := [(a_this, .inr (1, [.int v_rooms, .int v_doors, .int v_needs, w_work, w_coats, .ref a_beside, w_needParts])), (a_beside, .inl (cy, 6, .inl v_beside))]
theorem hi_X1_joined_1 : ∀ w ∈ u_ws RX1 TX1 7, w ∈ wsX1_joined := fun _ h => List.mem_cons_of_mem _ (List.mem_append_right _ h)
def wp_X1_joined (x1 : Int32) (x2 : Int32) (v_beside : IA) (K : Int32 → Prop) : Prop := vp_in x1 6 ∧ (((((v_beside x1.toNatClampNeg) >>> (x2 &&& 31)) &&& (1 : Int32)) = 0 → K (0 : Int32)) ∧ (¬ ((((v_beside x1.toNatClampNeg) >>> (x2 &&& 31)) &&& (1 : Int32)) = 0) → K (1 : Int32)))
set_option maxHeartbeats 4000000 in
set_option maxRecDepth 100000 in
theorem c_X1_joined {l : Launch} {D : va_G} {cy : ClassId} {a_this a_beside : Nat} {w_work w_coats w_needParts : Value} {v_rooms : Int32} {v_doors : Int32} {v_needs : Int32} {v_beside : IA} {x1 : Int32} {x2 : Int32} {K : Int32 → Prop} : CtI l yX1_joined wsX1_joined { frames := 1, cells := 0, slots := 0, locals := 64 } 0 0 D cy [.ref a_this, .int x1, .int x2] (w_X1_joined cy a_this a_beside w_work w_coats w_needParts v_rooms v_doors v_needs v_beside) (wp_X1_joined x1 x2 v_beside K) (fun (u : Unit) => (w_X1_joined cy a_this a_beside w_work w_coats w_needParts v_rooms v_doors v_needs v_beside)) (fun (r : Int32) (u : Unit) => nz r ∧ K r) := by
  refine CtI.mk (cc := cX1_joined) (nL := 3) (ty := .boolean) (by decide) rfl (Nat.le_of_ble_eq_true rfl) (fun r u h => h.1.nar) ?_
  intro p e s m args below meth c A Q ha hr _ h ls hl hw
  have ha : am p s m args c cX1_joined 3 RX1 wsX1_joined D cy A := ha
  have hx := ha.1
  have hb := ha.2.1
  have hl : lv_has ls 3 [(0, .ref a_this), (1, .int x1), (2, .int x2)] := hl
  have h : vp_in x1 6 ∧ (((((v_beside x1.toNatClampNeg) >>> (x2 &&& 31)) &&& (1 : Int32)) = 0 → K (0 : Int32)) ∧ (¬ ((((v_beside x1.toNatClampNeg) >>> (x2 &&& 31)) &&& (1 : Int32)) = 0) → K (1 : Int32))) := h
  refine lv_aload_n hx hb dX1_joined_0 rfl (lv_at hl 0 rfl) ?_
  refine g_get (ci := 1) ha hw 0 5 rfl hi_X1_joined_1 (by decide) (List.mem_of_getElem? (i := 1) rfl) rfl rfl dX1_joined_1 ?_
  refine lv_iload_n hx hb dX1_joined_4 rfl (lv_at hl 1 rfl) ?_
  obtain ⟨z1, h⟩ := h
  refine g_ald ha hw 1 rfl z1 dX1_joined_5 ?_
  refine lv_iload_n hx hb dX1_joined_6 rfl (lv_at hl 2 rfl) ?_
  refine lv_ishr hx hb dX1_joined_7 ?_
  refine lv_iconst (v := (1 : Int32)) hx hb dX1_joined_8 (by decide) ?_
  refine lv_iand hx hb dX1_joined_9 ?_
  refine lv_if_eq (tgt := 17) hx hb dX1_joined_10 (by decide) (fun c2 => ?_) (fun c2 => ?_)
  · have h := h.1 c2
    refine lv_iconst (v := (0 : Int32)) hx hb dX1_joined_17 (by decide) ?_
    exact hr _ _ () _ _ _ dX1_joined_18 ⟨nz0, h⟩ hw
  · have h := h.2 c2
    refine lv_iconst (v := (1 : Int32)) hx hb dX1_joined_13 (by decide) ?_
    refine lv_goto (tgt := 18) hx hb dX1_joined_14 (by decide) ?_
    exact hr _ _ () _ _ _ dX1_joined_18 ⟨nz1, h⟩ hw
theorem hq_X1_needPart : yX1_needPart.cls = RX1 ∧ yX1_needPart.cls ≠ "java/lang/invoke/MethodHandle" ∧ yX1_needPart.cls ≠ "java/lang/invoke/VarHandle" ∧ (parseMethodDescriptor yX1_needPart.desc).map (fun d => d.parameters.length) = some 2 := by decide +kernel
def w_X1_needPart (cy : ClassId) (a_this a_needParts : Nat) (w_work w_coats w_beside : Value) (v_rooms : Int32) (v_doors : Int32) (v_needs : Int32) (v_needParts : IA) : va_W := [(a_this, .inr (1, [.int v_rooms, .int v_doors, .int v_needs, w_work, w_coats, w_beside, .ref a_needParts])), (a_needParts, .inl (cy, 32, .inl v_needParts))]
theorem hi_X1_needPart_1 : ∀ w ∈ u_ws RX1 TX1 7, w ∈ wsX1_needPart := fun _ h => List.mem_cons_of_mem _ (List.mem_append_right _ h)
def wp_X1_needPart (x1 : Int32) (x2 : Int32) (v_needParts : IA) (K : Int32 → Prop) : Prop := vp_in ((x1 * (4 : Int32)) + x2) 32 ∧ (K (v_needParts ((x1 * (4 : Int32)) + x2).toNatClampNeg))
set_option maxHeartbeats 4000000 in
set_option maxRecDepth 100000 in
theorem c_X1_needPart {l : Launch} {D : va_G} {cy : ClassId} {a_this a_needParts : Nat} {w_work w_coats w_beside : Value} {v_rooms : Int32} {v_doors : Int32} {v_needs : Int32} {v_needParts : IA} {x1 : Int32} {x2 : Int32} {K : Int32 → Prop} : CtI l yX1_needPart wsX1_needPart { frames := 1, cells := 0, slots := 0, locals := 64 } 0 0 D cy [.ref a_this, .int x1, .int x2] (w_X1_needPart cy a_this a_needParts w_work w_coats w_beside v_rooms v_doors v_needs v_needParts) (wp_X1_needPart x1 x2 v_needParts K) (fun (u : Unit) => (w_X1_needPart cy a_this a_needParts w_work w_coats w_beside v_rooms v_doors v_needs v_needParts)) (fun (r : Int32) (u : Unit) => K r) := by
  refine CtI.mk (cc := cX1_needPart) (nL := 3) (ty := .int) (by decide) rfl (Nat.le_of_ble_eq_true rfl) (fun r u h => rfl) ?_
  intro p e s m args below meth c A Q ha hr _ h ls hl hw
  have ha : am p s m args c cX1_needPart 3 RX1 wsX1_needPart D cy A := ha
  have hx := ha.1
  have hb := ha.2.1
  have hl : lv_has ls 3 [(0, .ref a_this), (1, .int x1), (2, .int x2)] := hl
  have h : vp_in ((x1 * (4 : Int32)) + x2) 32 ∧ (K (v_needParts ((x1 * (4 : Int32)) + x2).toNatClampNeg)) := h
  refine lv_aload_n hx hb dX1_needPart_0 rfl (lv_at hl 0 rfl) ?_
  refine g_get (ci := 1) ha hw 0 6 rfl hi_X1_needPart_1 (by decide) (List.mem_of_getElem? (i := 1) rfl) rfl rfl dX1_needPart_1 ?_
  refine lv_iload_n hx hb dX1_needPart_4 rfl (lv_at hl 1 rfl) ?_
  refine lv_iconst (v := (4 : Int32)) hx hb dX1_needPart_5 (by decide) ?_
  refine lv_imul hx hb dX1_needPart_6 ?_
  refine lv_iload_n hx hb dX1_needPart_7 rfl (lv_at hl 2 rfl) ?_
  refine lv_iadd hx hb dX1_needPart_8 ?_
  obtain ⟨z1, h⟩ := h
  refine g_ald ha hw 1 rfl z1 dX1_needPart_9 ?_
  exact hr _ _ () _ _ _ dX1_needPart_10 h hw
theorem hq_X1_coatsInAll : yX1_coatsInAll.cls = RX1 ∧ yX1_coatsInAll.cls ≠ "java/lang/invoke/MethodHandle" ∧ yX1_coatsInAll.cls ≠ "java/lang/invoke/VarHandle" ∧ (parseMethodDescriptor yX1_coatsInAll.desc).map (fun d => d.parameters.length) = some 0 := by decide +kernel
def w_X1_coatsInAll (cy : ClassId) (a_this a_coats : Nat) (w_work w_beside w_needParts : Value) (v_rooms : Int32) (v_doors : Int32) (v_needs : Int32) (v_coats : IA) : va_W := [(a_this, .inr (1, [.int v_rooms, .int v_doors, .int v_needs, w_work, .ref a_coats, w_beside, w_needParts])), (a_coats, .inl (cy, 6, .inl v_coats))]
theorem hi_X1_coatsInAll_1 : ∀ w ∈ u_ws RX1 TX1 7, w ∈ wsX1_coatsInAll := fun _ h => List.mem_cons_of_mem _ (List.mem_append_right _ h)
def wp_X1_coatsInAll_4 (v_rooms : Int32) (v_coats : IA) (K : Int32 → Prop) : Nat → Int32 → Int32 → Prop
  | 0, _, _ => False
  | n + 1, x1, x2 => (v_rooms < x2 → K x1) ∧ (¬ (v_rooms < x2) → vp_in x2 6 ∧ (∀ x1_3 : Int32, x1_3 = x1 + (v_coats x2.toNatClampNeg) → wp_X1_coatsInAll_4 v_rooms v_coats K n x1_3 (x2 + (1 : Int32))))
set_option maxHeartbeats 4000000 in
set_option maxRecDepth 100000 in
theorem pl_X1_coatsInAll_4 {p : Program} {l : Launch} {e : Env} {s : State} {m : MethodId} {args : Array Value} {below : List Frame} {meth : Method} {c : Code} {A : Nat → Prop} {Q : State → Prop} {D : va_G} {cy : ClassId} {a_this a_coats : Nat} {w_work w_beside w_needParts : Value} {v_rooms : Int32} {v_doors : Int32} {v_needs : Int32} {v_coats : IA} {K : Int32 → Prop} (ha : am p s m args c cX1_coatsInAll 3 RX1 wsX1_coatsInAll D cy A) (hr : rtI p l e { frames := 1, cells := 0, slots := 0, locals := 64 } s m args below meth c 0 0 Q cX1_coatsInAll D A (fun (u : Unit) => (w_X1_coatsInAll cy a_this a_coats w_work w_beside w_needParts v_rooms v_doors v_needs v_coats)) (fun (r : Int32) (u : Unit) => K r)) : ∀ (n : Nat) (x1 : Int32) (x2 : Int32) (H : Heap) (locs : List Loc) (ls : Array Slot), wp_X1_coatsInAll_4 v_rooms v_coats K n x1 x2 → wd D A s.heap (w_X1_coatsInAll cy a_this a_coats w_work w_beside w_needParts v_rooms v_doors v_needs v_coats) H locs → lv_has ls 3 [(0, .ref a_this), (1, .int x1), (2, .int x2)] → W p l e { frames := 1, cells := 0, slots := 0, locals := 64 } s m args below meth c H locs 0 0 Q (F0 m 4 ls []) := by
  have hx := ha.1
  have hb := ha.2.1
  intro n
  induction n with
  | zero => exact fun _ _ _ _ _ h _ _ => False.elim h
  | succ n ih =>
    intro x1 x2 H locs ls h hw hl
    have h : (v_rooms < x2 → K x1) ∧ (¬ (v_rooms < x2) → vp_in x2 6 ∧ (∀ x1_3 : Int32, x1_3 = x1 + (v_coats x2.toNatClampNeg) → wp_X1_coatsInAll_4 v_rooms v_coats K n x1_3 (x2 + (1 : Int32)))) := h
    refine lv_iload_n hx hb dX1_coatsInAll_4 rfl (lv_at hl 2 rfl) ?_
    refine lv_aload_n hx hb dX1_coatsInAll_5 rfl (lv_at hl 0 rfl) ?_
    refine g_get (ci := 1) ha hw 0 0 rfl hi_X1_coatsInAll_1 (by decide) (List.mem_of_getElem? (i := 1) rfl) rfl rfl dX1_coatsInAll_6 ?_
    refine lv_icmp_gt (tgt := 27) hx hb dX1_coatsInAll_9 (by decide) (fun c1 => ?_) (fun c1 => ?_)
    · have h := h.1 c1
      refine lv_iload_n hx hb dX1_coatsInAll_27 rfl (lv_at hl 1 rfl) ?_
      exact hr _ _ () _ _ _ dX1_coatsInAll_28 h hw
    · have h := h.2 c1
      refine lv_iload_n hx hb dX1_coatsInAll_12 rfl (lv_at hl 1 rfl) ?_
      refine lv_aload_n hx hb dX1_coatsInAll_13 rfl (lv_at hl 0 rfl) ?_
      refine g_get (ci := 1) ha hw 0 4 rfl hi_X1_coatsInAll_1 (by decide) (List.mem_of_getElem? (i := 2) rfl) rfl rfl dX1_coatsInAll_14 ?_
      refine lv_iload_n hx hb dX1_coatsInAll_17 rfl (lv_at hl 2 rfl) ?_
      obtain ⟨z2, h⟩ := h
      refine g_ald ha hw 1 rfl z2 dX1_coatsInAll_18 ?_
      refine lv_iadd hx hb dX1_coatsInAll_19 ?_
      refine lv_topi (fun x1_3 ex1_3 => ?_)
      have h := h x1_3 ex1_3
      refine lv_istore_n (lv' := [(1, .int x1_3), (0, .ref a_this), (2, .int x2)]) hx hb dX1_coatsInAll_20 rfl hl (by decide) rfl (fun ls hl => ?_)
      refine lv_iinc (v := x2 + (1 : Int32)) (lv' := [(2, .int (x2 + (1 : Int32))), (1, .int x1_3), (0, .ref a_this)]) hx hb dX1_coatsInAll_21 hl (k := 2) rfl rfl (by decide) rfl (fun ls hl => ?_)
      refine lv_goto (tgt := 4) hx hb dX1_coatsInAll_24 (by decide) ?_
      exact ih _ _ _ _ _ h hw (lv_sub hl [2, 1, 0] rfl)
def wp_X1_coatsInAll (v_rooms : Int32) (v_coats : IA) (K : Int32 → Prop) : Prop := ∃ n4 : Nat, wp_X1_coatsInAll_4 v_rooms v_coats K n4 (0 : Int32) (1 : Int32)
set_option maxHeartbeats 4000000 in
set_option maxRecDepth 100000 in
theorem c_X1_coatsInAll {l : Launch} {D : va_G} {cy : ClassId} {a_this a_coats : Nat} {w_work w_beside w_needParts : Value} {v_rooms : Int32} {v_doors : Int32} {v_needs : Int32} {v_coats : IA} {K : Int32 → Prop} : CtI l yX1_coatsInAll wsX1_coatsInAll { frames := 1, cells := 0, slots := 0, locals := 64 } 0 0 D cy [.ref a_this] (w_X1_coatsInAll cy a_this a_coats w_work w_beside w_needParts v_rooms v_doors v_needs v_coats) (wp_X1_coatsInAll v_rooms v_coats K) (fun (u : Unit) => (w_X1_coatsInAll cy a_this a_coats w_work w_beside w_needParts v_rooms v_doors v_needs v_coats)) (fun (r : Int32) (u : Unit) => K r) := by
  refine CtI.mk (cc := cX1_coatsInAll) (nL := 3) (ty := .int) (by decide) rfl (Nat.le_of_ble_eq_true rfl) (fun r u h => rfl) ?_
  intro p e s m args below meth c A Q ha hr _ h ls hl hw
  have ha : am p s m args c cX1_coatsInAll 3 RX1 wsX1_coatsInAll D cy A := ha
  have hx := ha.1
  have hb := ha.2.1
  have hl : lv_has ls 3 [(0, .ref a_this)] := hl
  have h : ∃ n4 : Nat, wp_X1_coatsInAll_4 v_rooms v_coats K n4 (0 : Int32) (1 : Int32) := h
  refine lv_iconst (v := (0 : Int32)) hx hb dX1_coatsInAll_0 (by decide) ?_
  refine lv_istore_n (lv' := [(1, .int (0 : Int32)), (0, .ref a_this)]) hx hb dX1_coatsInAll_1 rfl hl (by decide) rfl (fun ls hl => ?_)
  refine lv_iconst (v := (1 : Int32)) hx hb dX1_coatsInAll_2 (by decide) ?_
  refine lv_istore_n (lv' := [(2, .int (1 : Int32)), (1, .int (0 : Int32)), (0, .ref a_this)]) hx hb dX1_coatsInAll_3 rfl hl (by decide) rfl (fun ls hl => ?_)
  obtain ⟨n9, h⟩ := h
  refine pl_X1_coatsInAll_4 ha hr n9 _ _ _ _ _ h hw (lv_sub hl [2, 1, 0] rfl)
theorem hq_X1_addRoom : yX1_addRoom.cls = RX1 ∧ yX1_addRoom.cls ≠ "java/lang/invoke/MethodHandle" ∧ yX1_addRoom.cls ≠ "java/lang/invoke/VarHandle" ∧ (parseMethodDescriptor yX1_addRoom.desc).map (fun d => d.parameters.length) = some 2 := by decide +kernel
def w_X1_addRoom (cy : ClassId) (a_this a_work a_coats : Nat) (w_beside w_needParts : Value) (v_rooms : Int32) (v_doors : Int32) (v_needs : Int32) (v_work : IA) (v_coats : IA) : va_W := [(a_this, .inr (1, [.int v_rooms, .int v_doors, .int v_needs, .ref a_work, .ref a_coats, w_beside, w_needParts])), (a_work, .inl (cy, 6, .inl v_work)), (a_coats, .inl (cy, 6, .inl v_coats))]
theorem hi_X1_addRoom_1 : ∀ w ∈ u_ws RX1 TX1 7, w ∈ wsX1_addRoom := fun _ h => List.mem_cons_of_mem _ (List.mem_append_right _ h)
def wp_X1_addRoom (x1 : Int32) (x2 : Int32) (v_rooms : Int32) (v_work : IA) (v_coats : IA) (K : Int32 → Int32 → IA → IA → Prop) : Prop := (x1 < (1 : Int32) → K (0 : Int32) v_rooms v_work v_coats) ∧ (¬ (x1 < (1 : Int32)) → ((9 : Int32) < x1 → K (0 : Int32) v_rooms v_work v_coats) ∧ (¬ ((9 : Int32) < x1) → (x2 < (1 : Int32) → K (0 : Int32) v_rooms v_work v_coats) ∧ (¬ (x2 < (1 : Int32)) → (x2 ≤ (2 : Int32) → (v_rooms < (5 : Int32) → vp_in (v_rooms + (1 : Int32)) 6 ∧ (K (1 : Int32) (v_rooms + (1 : Int32)) (upd v_work (v_rooms + (1 : Int32)).toNatClampNeg x1) (upd v_coats (v_rooms + (1 : Int32)).toNatClampNeg x2))) ∧ (¬ (v_rooms < (5 : Int32)) → K (0 : Int32) v_rooms v_work v_coats)) ∧ (¬ (x2 ≤ (2 : Int32)) → K (0 : Int32) v_rooms v_work v_coats))))
set_option maxHeartbeats 4000000 in
set_option maxRecDepth 100000 in
theorem c_X1_addRoom {l : Launch} {D : va_G} {cy : ClassId} {a_this a_work a_coats : Nat} {w_beside w_needParts : Value} {v_rooms : Int32} {v_doors : Int32} {v_needs : Int32} {v_work : IA} {v_coats : IA} {x1 : Int32} {x2 : Int32} {K : Int32 → Int32 → IA → IA → Prop} : CtI l yX1_addRoom wsX1_addRoom { frames := 1, cells := 0, slots := 0, locals := 64 } 0 0 D cy [.ref a_this, .int x1, .int x2] (w_X1_addRoom cy a_this a_work a_coats w_beside w_needParts v_rooms v_doors v_needs v_work v_coats) (wp_X1_addRoom x1 x2 v_rooms v_work v_coats K) (fun (u : Int32 × IA × IA) => (w_X1_addRoom cy a_this a_work a_coats w_beside w_needParts u.1 v_doors v_needs u.2.1 u.2.2)) (fun (r : Int32) (u : Int32 × IA × IA) => nz r ∧ K r u.1 u.2.1 u.2.2) := by
  refine CtI.mk (cc := cX1_addRoom) (nL := 3) (ty := .boolean) (by decide) rfl (Nat.le_of_ble_eq_true rfl) (fun r u h => h.1.nar) ?_
  intro p e s m args below meth c A Q ha hr _ h ls hl hw
  have ha : am p s m args c cX1_addRoom 3 RX1 wsX1_addRoom D cy A := ha
  have hx := ha.1
  have hb := ha.2.1
  have hl : lv_has ls 3 [(0, .ref a_this), (1, .int x1), (2, .int x2)] := hl
  have h : (x1 < (1 : Int32) → K (0 : Int32) v_rooms v_work v_coats) ∧ (¬ (x1 < (1 : Int32)) → ((9 : Int32) < x1 → K (0 : Int32) v_rooms v_work v_coats) ∧ (¬ ((9 : Int32) < x1) → (x2 < (1 : Int32) → K (0 : Int32) v_rooms v_work v_coats) ∧ (¬ (x2 < (1 : Int32)) → (x2 ≤ (2 : Int32) → (v_rooms < (5 : Int32) → vp_in (v_rooms + (1 : Int32)) 6 ∧ (K (1 : Int32) (v_rooms + (1 : Int32)) (upd v_work (v_rooms + (1 : Int32)).toNatClampNeg x1) (upd v_coats (v_rooms + (1 : Int32)).toNatClampNeg x2))) ∧ (¬ (v_rooms < (5 : Int32)) → K (0 : Int32) v_rooms v_work v_coats)) ∧ (¬ (x2 ≤ (2 : Int32)) → K (0 : Int32) v_rooms v_work v_coats)))) := h
  refine lv_iload_n hx hb dX1_addRoom_0 rfl (lv_at hl 1 rfl) ?_
  refine lv_iconst (v := (1 : Int32)) hx hb dX1_addRoom_1 (by decide) ?_
  refine lv_icmp_lt (tgt := 21) hx hb dX1_addRoom_2 (by decide) (fun c1 => ?_) (fun c1 => ?_)
  · have h := h.1 c1
    refine lv_iconst (v := (0 : Int32)) hx hb dX1_addRoom_21 (by decide) ?_
    exact hr _ _ (v_rooms, v_work, v_coats) _ _ _ dX1_addRoom_22 ⟨nz0, h⟩ hw
  · have h := h.2 c1
    refine lv_iload_n hx hb dX1_addRoom_5 rfl (lv_at hl 1 rfl) ?_
    refine lv_bipush (v := (9 : Int32)) hx hb dX1_addRoom_6 (by decide) ?_
    refine lv_icmp_gt (tgt := 21) hx hb dX1_addRoom_8 (by decide) (fun c2 => ?_) (fun c2 => ?_)
    · have h := h.1 c2
      refine lv_iconst (v := (0 : Int32)) hx hb dX1_addRoom_21 (by decide) ?_
      exact hr _ _ (v_rooms, v_work, v_coats) _ _ _ dX1_addRoom_22 ⟨nz0, h⟩ hw
    · have h := h.2 c2
      refine lv_iload_n hx hb dX1_addRoom_11 rfl (lv_at hl 2 rfl) ?_
      refine lv_iconst (v := (1 : Int32)) hx hb dX1_addRoom_12 (by decide) ?_
      refine lv_icmp_lt (tgt := 21) hx hb dX1_addRoom_13 (by decide) (fun c3 => ?_) (fun c3 => ?_)
      · have h := h.1 c3
        refine lv_iconst (v := (0 : Int32)) hx hb dX1_addRoom_21 (by decide) ?_
        exact hr _ _ (v_rooms, v_work, v_coats) _ _ _ dX1_addRoom_22 ⟨nz0, h⟩ hw
      · have h := h.2 c3
        refine lv_iload_n hx hb dX1_addRoom_16 rfl (lv_at hl 2 rfl) ?_
        refine lv_iconst (v := (2 : Int32)) hx hb dX1_addRoom_17 (by decide) ?_
        refine lv_icmp_le (tgt := 23) hx hb dX1_addRoom_18 (by decide) (fun c4 => ?_) (fun c4 => ?_)
        · have h := h.1 c4
          refine lv_aload_n hx hb dX1_addRoom_23 rfl (lv_at hl 0 rfl) ?_
          refine g_get (ci := 1) ha hw 0 0 rfl hi_X1_addRoom_1 (by decide) (List.mem_of_getElem? (i := 1) rfl) rfl rfl dX1_addRoom_24 ?_
          refine lv_iconst (v := (5 : Int32)) hx hb dX1_addRoom_27 (by decide) ?_
          refine lv_icmp_lt (tgt := 33) hx hb dX1_addRoom_28 (by decide) (fun c5 => ?_) (fun c5 => ?_)
          · have h := h.1 c5
            refine lv_aload_n hx hb dX1_addRoom_33 rfl (lv_at hl 0 rfl) ?_
            refine lv_dup hx hb dX1_addRoom_34 rfl ?_
            refine g_get (ci := 1) ha hw 0 0 rfl hi_X1_addRoom_1 (by decide) (List.mem_of_getElem? (i := 1) rfl) rfl rfl dX1_addRoom_35 ?_
            refine lv_iconst (v := (1 : Int32)) hx hb dX1_addRoom_38 (by decide) ?_
            refine lv_iadd hx hb dX1_addRoom_39 ?_
            refine g_put (ci := 1) (wn := (w_X1_addRoom cy a_this a_work a_coats w_beside w_needParts (v_rooms + (1 : Int32)) v_doors v_needs v_work v_coats)) ha hw 0 0 rfl hi_X1_addRoom_1 tyX1_ok nmX1 (by decide) (List.mem_of_getElem? (i := 1) rfl) rfl rfl rfl rfl (Nat.le_of_ble_eq_true rfl) rfl dX1_addRoom_40 (fun H locs hw => ?_)
            refine lv_aload_n hx hb dX1_addRoom_43 rfl (lv_at hl 0 rfl) ?_
            refine g_get (ci := 1) ha hw 0 3 rfl hi_X1_addRoom_1 (by decide) (List.mem_of_getElem? (i := 2) rfl) rfl rfl dX1_addRoom_44 ?_
            refine lv_aload_n hx hb dX1_addRoom_47 rfl (lv_at hl 0 rfl) ?_
            refine g_get (ci := 1) ha hw 0 0 rfl hi_X1_addRoom_1 (by decide) (List.mem_of_getElem? (i := 1) rfl) rfl rfl dX1_addRoom_48 ?_
            refine lv_iload_n hx hb dX1_addRoom_51 rfl (lv_at hl 1 rfl) ?_
            obtain ⟨z6, h⟩ := h
            refine g_ast (wn := (w_X1_addRoom cy a_this a_work a_coats w_beside w_needParts (v_rooms + (1 : Int32)) v_doors v_needs (upd v_work (v_rooms + (1 : Int32)).toNatClampNeg x1) v_coats)) ha hw 1 rfl z6 rfl dX1_addRoom_52 (fun H locs hw => ?_)
            refine lv_aload_n hx hb dX1_addRoom_53 rfl (lv_at hl 0 rfl) ?_
            refine g_get (ci := 1) ha hw 0 4 rfl hi_X1_addRoom_1 (by decide) (List.mem_of_getElem? (i := 3) rfl) rfl rfl dX1_addRoom_54 ?_
            refine lv_aload_n hx hb dX1_addRoom_57 rfl (lv_at hl 0 rfl) ?_
            refine g_get (ci := 1) ha hw 0 0 rfl hi_X1_addRoom_1 (by decide) (List.mem_of_getElem? (i := 1) rfl) rfl rfl dX1_addRoom_58 ?_
            refine lv_iload_n hx hb dX1_addRoom_61 rfl (lv_at hl 2 rfl) ?_
            refine g_ast (wn := (w_X1_addRoom cy a_this a_work a_coats w_beside w_needParts (v_rooms + (1 : Int32)) v_doors v_needs (upd v_work (v_rooms + (1 : Int32)).toNatClampNeg x1) (upd v_coats (v_rooms + (1 : Int32)).toNatClampNeg x2))) ha hw 2 rfl z6 rfl dX1_addRoom_62 (fun H locs hw => ?_)
            refine lv_iconst (v := (1 : Int32)) hx hb dX1_addRoom_63 (by decide) ?_
            exact hr _ _ (v_rooms + (1 : Int32), upd v_work (v_rooms + (1 : Int32)).toNatClampNeg x1, upd v_coats (v_rooms + (1 : Int32)).toNatClampNeg x2) _ _ _ dX1_addRoom_64 ⟨nz1, h⟩ hw
          · have h := h.2 c5
            refine lv_iconst (v := (0 : Int32)) hx hb dX1_addRoom_31 (by decide) ?_
            exact hr _ _ (v_rooms, v_work, v_coats) _ _ _ dX1_addRoom_32 ⟨nz0, h⟩ hw
        · have h := h.2 c4
          refine lv_iconst (v := (0 : Int32)) hx hb dX1_addRoom_21 (by decide) ?_
          exact hr _ _ (v_rooms, v_work, v_coats) _ _ _ dX1_addRoom_22 ⟨nz0, h⟩ hw
theorem hq_X1_areTwoPlaces : yX1_areTwoPlaces.cls = RX1 ∧ yX1_areTwoPlaces.cls ≠ "java/lang/invoke/MethodHandle" ∧ yX1_areTwoPlaces.cls ≠ "java/lang/invoke/VarHandle" ∧ (parseMethodDescriptor yX1_areTwoPlaces.desc).map (fun d => d.parameters.length) = some 2 := by decide +kernel
def w_X1_areTwoPlaces (cy : ClassId) (a_this : Nat) (w_work w_coats w_beside w_needParts : Value) (v_rooms : Int32) (v_doors : Int32) (v_needs : Int32) : va_W := [(a_this, .inr (1, [.int v_rooms, .int v_doors, .int v_needs, w_work, w_coats, w_beside, w_needParts]))]
def wp_X1_areTwoPlaces (x1 : Int32) (x2 : Int32) (v_rooms : Int32) (K : Int32 → Prop) : Prop := wp_X1_hasPlace x1 v_rooms (fun (r1 : Int32) => (r1 = 0 → K (0 : Int32)) ∧ (¬ (r1 = 0) → wp_X1_hasPlace x2 v_rooms (fun (r3 : Int32) => (r3 = 0 → K (0 : Int32)) ∧ (¬ (r3 = 0) → (x1 = x2 → K (0 : Int32)) ∧ (¬ (x1 = x2) → K (1 : Int32))))))
set_option maxHeartbeats 4000000 in
set_option maxRecDepth 100000 in
theorem c_X1_areTwoPlaces {l : Launch} {D : va_G} {cy : ClassId} {a_this : Nat} {w_work w_coats w_beside w_needParts : Value} {v_rooms : Int32} {v_doors : Int32} {v_needs : Int32} {x1 : Int32} {x2 : Int32} {K : Int32 → Prop} : CtI l yX1_areTwoPlaces wsX1_areTwoPlaces { frames := 2, cells := 0, slots := 0, locals := 149 } 0 0 D cy [.ref a_this, .int x1, .int x2] (w_X1_areTwoPlaces cy a_this w_work w_coats w_beside w_needParts v_rooms v_doors v_needs) (wp_X1_areTwoPlaces x1 x2 v_rooms K) (fun (u : Unit) => (w_X1_areTwoPlaces cy a_this w_work w_coats w_beside w_needParts v_rooms v_doors v_needs)) (fun (r : Int32) (u : Unit) => nz r ∧ K r) := by
  refine CtI.mk (cc := cX1_areTwoPlaces) (nL := 3) (ty := .boolean) (by decide) rfl (Nat.le_of_ble_eq_true rfl) (fun r u h => h.1.nar) ?_
  intro p e s m args below meth c A Q ha hr _ h ls hl hw
  have ha : am p s m args c cX1_areTwoPlaces 3 RX1 wsX1_areTwoPlaces D cy A := ha
  have hx := ha.1
  have hb := ha.2.1
  have hl : lv_has ls 3 [(0, .ref a_this), (1, .int x1), (2, .int x2)] := hl
  have h : wp_X1_hasPlace x1 v_rooms (fun (r1 : Int32) => (r1 = 0 → K (0 : Int32)) ∧ (¬ (r1 = 0) → wp_X1_hasPlace x2 v_rooms (fun (r3 : Int32) => (r3 = 0 → K (0 : Int32)) ∧ (¬ (r3 = 0) → (x1 = x2 → K (0 : Int32)) ∧ (¬ (x1 = x2) → K (1 : Int32)))))) := h
  refine lv_aload_n hx hb dX1_areTwoPlaces_0 rfl (lv_at hl 0 rfl) ?_
  refine lv_iload_n hx hb dX1_areTwoPlaces_1 rfl (lv_at hl 1 rfl) ?_
  refine g_cvi (rm := { frames := 1, cells := 0, slots := 0, locals := 64 }) (wn := (fun (u : Unit) => (w_X1_areTwoPlaces cy a_this w_work w_coats w_beside w_needParts v_rooms v_doors v_needs))) (As := [.int x1]) ha hw hl.1 (c_X1_hasPlace (cy := cy)) (cwV 1 ha.2.2.2.2.1 gX1_areTwoPlaces_X1_hasPlace rfl rfl rfl hq_X1_hasPlace ⟨Nat.le_of_ble_eq_true rfl, Nat.le_of_ble_eq_true rfl⟩) [0] [] [0] rfl rfl rfl rfl (by decide) rfl (fun _ => rfl) rfl rfl h rfl rfl (Nat.le_of_ble_eq_true rfl) dX1_areTwoPlaces_2 ⟨Nat.le_refl _, Nat.le_refl _⟩ (fun r1 u H locs h hw => ?_)
  have hw : wd D A s.heap (w_X1_areTwoPlaces cy a_this w_work w_coats w_beside w_needParts v_rooms v_doors v_needs) H locs := hw
  obtain ⟨zr1, h⟩ := h
  try dsimp only at h
  refine lv_if_eq (tgt := 25) hx hb dX1_areTwoPlaces_5 (by decide) (fun c2 => ?_) (fun c2 => ?_)
  · have h := h.1 c2
    refine lv_iconst (v := (0 : Int32)) hx hb dX1_areTwoPlaces_25 (by decide) ?_
    exact hr _ _ () _ _ _ dX1_areTwoPlaces_26 ⟨nz0, h⟩ hw
  · have h := h.2 c2
    refine lv_aload_n hx hb dX1_areTwoPlaces_8 rfl (lv_at hl 0 rfl) ?_
    refine lv_iload_n hx hb dX1_areTwoPlaces_9 rfl (lv_at hl 2 rfl) ?_
    refine g_cvi (rm := { frames := 1, cells := 0, slots := 0, locals := 64 }) (wn := (fun (u : Unit) => (w_X1_areTwoPlaces cy a_this w_work w_coats w_beside w_needParts v_rooms v_doors v_needs))) (As := [.int x2]) ha hw hl.1 (c_X1_hasPlace (cy := cy)) (cwV 1 ha.2.2.2.2.1 gX1_areTwoPlaces_X1_hasPlace rfl rfl rfl hq_X1_hasPlace ⟨Nat.le_of_ble_eq_true rfl, Nat.le_of_ble_eq_true rfl⟩) [0] [] [0] rfl rfl rfl rfl (by decide) rfl (fun _ => rfl) rfl rfl h rfl rfl (Nat.le_of_ble_eq_true rfl) dX1_areTwoPlaces_10 ⟨Nat.le_refl _, Nat.le_refl _⟩ (fun r3 u H locs h hw => ?_)
    have hw : wd D A s.heap (w_X1_areTwoPlaces cy a_this w_work w_coats w_beside w_needParts v_rooms v_doors v_needs) H locs := hw
    obtain ⟨zr3, h⟩ := h
    try dsimp only at h
    refine lv_if_eq (tgt := 25) hx hb dX1_areTwoPlaces_13 (by decide) (fun c4 => ?_) (fun c4 => ?_)
    · have h := h.1 c4
      refine lv_iconst (v := (0 : Int32)) hx hb dX1_areTwoPlaces_25 (by decide) ?_
      exact hr _ _ () _ _ _ dX1_areTwoPlaces_26 ⟨nz0, h⟩ hw
    · have h := h.2 c4
      refine lv_iload_n hx hb dX1_areTwoPlaces_16 rfl (lv_at hl 1 rfl) ?_
      refine lv_iload_n hx hb dX1_areTwoPlaces_17 rfl (lv_at hl 2 rfl) ?_
      refine lv_icmp_eq (tgt := 25) hx hb dX1_areTwoPlaces_18 (by decide) (fun c5 => ?_) (fun c5 => ?_)
      · have h := h.1 c5
        refine lv_iconst (v := (0 : Int32)) hx hb dX1_areTwoPlaces_25 (by decide) ?_
        exact hr _ _ () _ _ _ dX1_areTwoPlaces_26 ⟨nz0, h⟩ hw
      · have h := h.2 c5
        refine lv_iconst (v := (1 : Int32)) hx hb dX1_areTwoPlaces_21 (by decide) ?_
        refine lv_goto (tgt := 26) hx hb dX1_areTwoPlaces_22 (by decide) ?_
        exact hr _ _ () _ _ _ dX1_areTwoPlaces_26 ⟨nz1, h⟩ hw
theorem hq_X1_addDoor : yX1_addDoor.cls = RX1 ∧ yX1_addDoor.cls ≠ "java/lang/invoke/MethodHandle" ∧ yX1_addDoor.cls ≠ "java/lang/invoke/VarHandle" ∧ (parseMethodDescriptor yX1_addDoor.desc).map (fun d => d.parameters.length) = some 2 := by decide +kernel
def w_X1_addDoor (cy : ClassId) (a_this a_beside : Nat) (w_work w_coats w_needParts : Value) (v_rooms : Int32) (v_doors : Int32) (v_needs : Int32) (v_beside : IA) : va_W := [(a_this, .inr (1, [.int v_rooms, .int v_doors, .int v_needs, w_work, w_coats, .ref a_beside, w_needParts])), (a_beside, .inl (cy, 6, .inl v_beside))]
theorem hi_X1_addDoor_1 : ∀ w ∈ u_ws RX1 TX1 7, w ∈ wsX1_addDoor := fun _ h => List.mem_cons_of_mem _ (List.mem_append_right _ h)
def wp_X1_addDoor (x1 : Int32) (x2 : Int32) (v_rooms : Int32) (v_doors : Int32) (v_beside : IA) (K : Int32 → Int32 → IA → Prop) : Prop := wp_X1_areTwoPlaces x1 x2 v_rooms (fun (r1 : Int32) => (r1 = 0 → K (0 : Int32) v_doors v_beside) ∧ (¬ (r1 = 0) → wp_X1_joined x1 x2 v_beside (fun (r3 : Int32) => (r3 = 0 → (v_doors < (12 : Int32) → vp_in x1 6 ∧ (vp_in x2 6 ∧ (K (1 : Int32) (v_doors + (1 : Int32)) (upd (upd v_beside x1.toNatClampNeg ((v_beside x1.toNatClampNeg) ||| ((1 : Int32) <<< (x2 &&& 31)))) x2.toNatClampNeg (((upd v_beside x1.toNatClampNeg ((v_beside x1.toNatClampNeg) ||| ((1 : Int32) <<< (x2 &&& 31)))) x2.toNatClampNeg) ||| ((1 : Int32) <<< (x1 &&& 31))))))) ∧ (¬ (v_doors < (12 : Int32)) → K (0 : Int32) v_doors v_beside)) ∧ (¬ (r3 = 0) → K (0 : Int32) v_doors v_beside))))
set_option maxHeartbeats 4000000 in
set_option maxRecDepth 100000 in
theorem c_X1_addDoor {l : Launch} {D : va_G} {cy : ClassId} {a_this a_beside : Nat} {w_work w_coats w_needParts : Value} {v_rooms : Int32} {v_doors : Int32} {v_needs : Int32} {v_beside : IA} {x1 : Int32} {x2 : Int32} {K : Int32 → Int32 → IA → Prop} : CtI l yX1_addDoor wsX1_addDoor { frames := 3, cells := 0, slots := 0, locals := 235 } 0 0 D cy [.ref a_this, .int x1, .int x2] (w_X1_addDoor cy a_this a_beside w_work w_coats w_needParts v_rooms v_doors v_needs v_beside) (wp_X1_addDoor x1 x2 v_rooms v_doors v_beside K) (fun (u : Int32 × IA) => (w_X1_addDoor cy a_this a_beside w_work w_coats w_needParts v_rooms u.1 v_needs u.2)) (fun (r : Int32) (u : Int32 × IA) => nz r ∧ K r u.1 u.2) := by
  refine CtI.mk (cc := cX1_addDoor) (nL := 3) (ty := .boolean) (by decide) rfl (Nat.le_of_ble_eq_true rfl) (fun r u h => h.1.nar) ?_
  intro p e s m args below meth c A Q ha hr _ h ls hl hw
  have ha : am p s m args c cX1_addDoor 3 RX1 wsX1_addDoor D cy A := ha
  have hx := ha.1
  have hb := ha.2.1
  have hl : lv_has ls 3 [(0, .ref a_this), (1, .int x1), (2, .int x2)] := hl
  have h : wp_X1_areTwoPlaces x1 x2 v_rooms (fun (r1 : Int32) => (r1 = 0 → K (0 : Int32) v_doors v_beside) ∧ (¬ (r1 = 0) → wp_X1_joined x1 x2 v_beside (fun (r3 : Int32) => (r3 = 0 → (v_doors < (12 : Int32) → vp_in x1 6 ∧ (vp_in x2 6 ∧ (K (1 : Int32) (v_doors + (1 : Int32)) (upd (upd v_beside x1.toNatClampNeg ((v_beside x1.toNatClampNeg) ||| ((1 : Int32) <<< (x2 &&& 31)))) x2.toNatClampNeg (((upd v_beside x1.toNatClampNeg ((v_beside x1.toNatClampNeg) ||| ((1 : Int32) <<< (x2 &&& 31)))) x2.toNatClampNeg) ||| ((1 : Int32) <<< (x1 &&& 31))))))) ∧ (¬ (v_doors < (12 : Int32)) → K (0 : Int32) v_doors v_beside)) ∧ (¬ (r3 = 0) → K (0 : Int32) v_doors v_beside)))) := h
  refine lv_aload_n hx hb dX1_addDoor_0 rfl (lv_at hl 0 rfl) ?_
  refine lv_iload_n hx hb dX1_addDoor_1 rfl (lv_at hl 1 rfl) ?_
  refine lv_iload_n hx hb dX1_addDoor_2 rfl (lv_at hl 2 rfl) ?_
  refine g_cvi (rm := { frames := 2, cells := 0, slots := 0, locals := 149 }) (wn := (fun (u : Unit) => (w_X1_addDoor cy a_this a_beside w_work w_coats w_needParts v_rooms v_doors v_needs v_beside))) (As := [.int x1, .int x2]) ha hw hl.1 (c_X1_areTwoPlaces (cy := cy)) (cwV 2 ha.2.2.2.2.1 gX1_addDoor_X1_areTwoPlaces rfl rfl rfl hq_X1_areTwoPlaces ⟨Nat.le_of_ble_eq_true rfl, Nat.le_of_ble_eq_true rfl⟩) [0] [1] [1, 0] rfl rfl rfl rfl (by decide) rfl (fun _ => rfl) rfl rfl h rfl rfl (Nat.le_of_ble_eq_true rfl) dX1_addDoor_3 ⟨Nat.le_refl _, Nat.le_refl _⟩ (fun r1 u H locs h hw => ?_)
  have hw : wd D A s.heap (w_X1_addDoor cy a_this a_beside w_work w_coats w_needParts v_rooms v_doors v_needs v_beside) H locs := hw
  obtain ⟨zr1, h⟩ := h
  try dsimp only at h
  refine lv_if_eq (tgt := 27) hx hb dX1_addDoor_6 (by decide) (fun c2 => ?_) (fun c2 => ?_)
  · have h := h.1 c2
    refine lv_iconst (v := (0 : Int32)) hx hb dX1_addDoor_27 (by decide) ?_
    exact hr _ _ (v_doors, v_beside) _ _ _ dX1_addDoor_28 ⟨nz0, h⟩ hw
  · have h := h.2 c2
    refine lv_aload_n hx hb dX1_addDoor_9 rfl (lv_at hl 0 rfl) ?_
    refine lv_iload_n hx hb dX1_addDoor_10 rfl (lv_at hl 1 rfl) ?_
    refine lv_iload_n hx hb dX1_addDoor_11 rfl (lv_at hl 2 rfl) ?_
    refine g_cvi (rm := { frames := 1, cells := 0, slots := 0, locals := 64 }) (wn := (fun (u : Unit) => (w_X1_addDoor cy a_this a_beside w_work w_coats w_needParts v_rooms v_doors v_needs v_beside))) (As := [.int x1, .int x2]) ha hw hl.1 (c_X1_joined (cy := cy)) (cwV 2 ha.2.2.2.2.1 gX1_addDoor_X1_joined rfl rfl rfl hq_X1_joined ⟨Nat.le_of_ble_eq_true rfl, Nat.le_of_ble_eq_true rfl⟩) [0, 1] [] [0, 1] rfl rfl rfl rfl (by decide) rfl (fun _ => rfl) rfl rfl h rfl rfl (Nat.le_of_ble_eq_true rfl) dX1_addDoor_12 ⟨Nat.le_refl _, Nat.le_refl _⟩ (fun r3 u H locs h hw => ?_)
    have hw : wd D A s.heap (w_X1_addDoor cy a_this a_beside w_work w_coats w_needParts v_rooms v_doors v_needs v_beside) H locs := hw
    obtain ⟨zr3, h⟩ := h
    try dsimp only at h
    refine lv_if_ne (tgt := 27) hx hb dX1_addDoor_15 (by decide) (fun c4 => ?_) (fun c4 => ?_)
    · have h := h.2 c4
      refine lv_iconst (v := (0 : Int32)) hx hb dX1_addDoor_27 (by decide) ?_
      exact hr _ _ (v_doors, v_beside) _ _ _ dX1_addDoor_28 ⟨nz0, h⟩ hw
    · have h := h.1 c4
      refine lv_aload_n hx hb dX1_addDoor_18 rfl (lv_at hl 0 rfl) ?_
      refine g_get (ci := 1) ha hw 0 1 rfl hi_X1_addDoor_1 (by decide) (List.mem_of_getElem? (i := 1) rfl) rfl rfl dX1_addDoor_19 ?_
      refine lv_bipush (v := (12 : Int32)) hx hb dX1_addDoor_22 (by decide) ?_
      refine lv_icmp_lt (tgt := 29) hx hb dX1_addDoor_24 (by decide) (fun c5 => ?_) (fun c5 => ?_)
      · have h := h.1 c5
        refine lv_aload_n hx hb dX1_addDoor_29 rfl (lv_at hl 0 rfl) ?_
        refine lv_dup hx hb dX1_addDoor_30 rfl ?_
        refine g_get (ci := 1) ha hw 0 1 rfl hi_X1_addDoor_1 (by decide) (List.mem_of_getElem? (i := 1) rfl) rfl rfl dX1_addDoor_31 ?_
        refine lv_iconst (v := (1 : Int32)) hx hb dX1_addDoor_34 (by decide) ?_
        refine lv_iadd hx hb dX1_addDoor_35 ?_
        refine g_put (ci := 1) (wn := (w_X1_addDoor cy a_this a_beside w_work w_coats w_needParts v_rooms (v_doors + (1 : Int32)) v_needs v_beside)) ha hw 0 1 rfl hi_X1_addDoor_1 tyX1_ok nmX1 (by decide) (List.mem_of_getElem? (i := 1) rfl) rfl rfl rfl rfl (Nat.le_of_ble_eq_true rfl) rfl dX1_addDoor_36 (fun H locs hw => ?_)
        refine lv_aload_n hx hb dX1_addDoor_39 rfl (lv_at hl 0 rfl) ?_
        refine g_get (ci := 1) ha hw 0 5 rfl hi_X1_addDoor_1 (by decide) (List.mem_of_getElem? (i := 2) rfl) rfl rfl dX1_addDoor_40 ?_
        refine lv_iload_n hx hb dX1_addDoor_43 rfl (lv_at hl 1 rfl) ?_
        refine lv_dup2_11 hx hb dX1_addDoor_44 rfl rfl ?_
        obtain ⟨z6, h⟩ := h
        refine g_ald ha hw 1 rfl z6 dX1_addDoor_45 ?_
        refine lv_iconst (v := (1 : Int32)) hx hb dX1_addDoor_46 (by decide) ?_
        refine lv_iload_n hx hb dX1_addDoor_47 rfl (lv_at hl 2 rfl) ?_
        refine lv_ishl hx hb dX1_addDoor_48 ?_
        refine lv_ior hx hb dX1_addDoor_49 ?_
        refine g_ast (wn := (w_X1_addDoor cy a_this a_beside w_work w_coats w_needParts v_rooms (v_doors + (1 : Int32)) v_needs (upd v_beside x1.toNatClampNeg ((v_beside x1.toNatClampNeg) ||| ((1 : Int32) <<< (x2 &&& 31)))))) ha hw 1 rfl z6 rfl dX1_addDoor_50 (fun H locs hw => ?_)
        refine lv_aload_n hx hb dX1_addDoor_51 rfl (lv_at hl 0 rfl) ?_
        refine g_get (ci := 1) ha hw 0 5 rfl hi_X1_addDoor_1 (by decide) (List.mem_of_getElem? (i := 2) rfl) rfl rfl dX1_addDoor_52 ?_
        refine lv_iload_n hx hb dX1_addDoor_55 rfl (lv_at hl 2 rfl) ?_
        refine lv_dup2_11 hx hb dX1_addDoor_56 rfl rfl ?_
        obtain ⟨z7, h⟩ := h
        refine g_ald ha hw 1 rfl z7 dX1_addDoor_57 ?_
        refine lv_iconst (v := (1 : Int32)) hx hb dX1_addDoor_58 (by decide) ?_
        refine lv_iload_n hx hb dX1_addDoor_59 rfl (lv_at hl 1 rfl) ?_
        refine lv_ishl hx hb dX1_addDoor_60 ?_
        refine lv_ior hx hb dX1_addDoor_61 ?_
        refine g_ast (wn := (w_X1_addDoor cy a_this a_beside w_work w_coats w_needParts v_rooms (v_doors + (1 : Int32)) v_needs (upd (upd v_beside x1.toNatClampNeg ((v_beside x1.toNatClampNeg) ||| ((1 : Int32) <<< (x2 &&& 31)))) x2.toNatClampNeg (((upd v_beside x1.toNatClampNeg ((v_beside x1.toNatClampNeg) ||| ((1 : Int32) <<< (x2 &&& 31)))) x2.toNatClampNeg) ||| ((1 : Int32) <<< (x1 &&& 31)))))) ha hw 1 rfl z7 rfl dX1_addDoor_62 (fun H locs hw => ?_)
        refine lv_iconst (v := (1 : Int32)) hx hb dX1_addDoor_63 (by decide) ?_
        exact hr _ _ (v_doors + (1 : Int32), upd (upd v_beside x1.toNatClampNeg ((v_beside x1.toNatClampNeg) ||| ((1 : Int32) <<< (x2 &&& 31)))) x2.toNatClampNeg (((upd v_beside x1.toNatClampNeg ((v_beside x1.toNatClampNeg) ||| ((1 : Int32) <<< (x2 &&& 31)))) x2.toNatClampNeg) ||| ((1 : Int32) <<< (x1 &&& 31)))) _ _ _ dX1_addDoor_64 ⟨nz1, h⟩ hw
      · have h := h.2 c5
        refine lv_iconst (v := (0 : Int32)) hx hb dX1_addDoor_27 (by decide) ?_
        exact hr _ _ (v_doors, v_beside) _ _ _ dX1_addDoor_28 ⟨nz0, h⟩ hw
theorem hq_X1_addNeed : yX1_addNeed.cls = RX1 ∧ yX1_addNeed.cls ≠ "java/lang/invoke/MethodHandle" ∧ yX1_addNeed.cls ≠ "java/lang/invoke/VarHandle" ∧ (parseMethodDescriptor yX1_addNeed.desc).map (fun d => d.parameters.length) = some 4 := by decide +kernel
def w_X1_addNeed (cy : ClassId) (a_this a_needParts : Nat) (w_work w_coats w_beside : Value) (v_rooms : Int32) (v_doors : Int32) (v_needs : Int32) (v_needParts : IA) : va_W := [(a_this, .inr (1, [.int v_rooms, .int v_doors, .int v_needs, w_work, w_coats, w_beside, .ref a_needParts])), (a_needParts, .inl (cy, 32, .inl v_needParts))]
theorem hi_X1_addNeed_1 : ∀ w ∈ u_ws RX1 TX1 7, w ∈ wsX1_addNeed := fun _ h => List.mem_cons_of_mem _ (List.mem_append_right _ h)
def wp_X1_addNeed (x1 : Int32) (x2 : Int32) (x3 : Int32) (x4 : Int32) (v_rooms : Int32) (v_needs : Int32) (v_needParts : IA) (K : Int32 → Int32 → IA → Prop) : Prop := wp_X1_areTwoPlaces x1 x2 v_rooms (fun (r1 : Int32) => (r1 = 0 → K (0 : Int32) v_needs v_needParts) ∧ (¬ (r1 = 0) → (x4 < x3 → K (0 : Int32) v_needs v_needParts) ∧ (¬ (x4 < x3) → (v_needs < (8 : Int32) → ∀ x5_5 : Int32, x5_5 = v_needs * (4 : Int32) → vp_in x5_5 32 ∧ (vp_in (x5_5 + (1 : Int32)) 32 ∧ (vp_in (x5_5 + (2 : Int32)) 32 ∧ (vp_in (x5_5 + (3 : Int32)) 32 ∧ (K (1 : Int32) (v_needs + (1 : Int32)) (upd (upd (upd (upd v_needParts x5_5.toNatClampNeg x1) (x5_5 + (1 : Int32)).toNatClampNeg x2) (x5_5 + (2 : Int32)).toNatClampNeg x3) (x5_5 + (3 : Int32)).toNatClampNeg x4)))))) ∧ (¬ (v_needs < (8 : Int32)) → K (0 : Int32) v_needs v_needParts))))
set_option maxHeartbeats 4000000 in
set_option maxRecDepth 100000 in
theorem c_X1_addNeed {l : Launch} {D : va_G} {cy : ClassId} {a_this a_needParts : Nat} {w_work w_coats w_beside : Value} {v_rooms : Int32} {v_doors : Int32} {v_needs : Int32} {v_needParts : IA} {x1 : Int32} {x2 : Int32} {x3 : Int32} {x4 : Int32} {K : Int32 → Int32 → IA → Prop} : CtI l yX1_addNeed wsX1_addNeed { frames := 3, cells := 0, slots := 0, locals := 235 } 0 0 D cy [.ref a_this, .int x1, .int x2, .int x3, .int x4] (w_X1_addNeed cy a_this a_needParts w_work w_coats w_beside v_rooms v_doors v_needs v_needParts) (wp_X1_addNeed x1 x2 x3 x4 v_rooms v_needs v_needParts K) (fun (u : Int32 × IA) => (w_X1_addNeed cy a_this a_needParts w_work w_coats w_beside v_rooms v_doors u.1 u.2)) (fun (r : Int32) (u : Int32 × IA) => nz r ∧ K r u.1 u.2) := by
  refine CtI.mk (cc := cX1_addNeed) (nL := 6) (ty := .boolean) (by decide) rfl (Nat.le_of_ble_eq_true rfl) (fun r u h => h.1.nar) ?_
  intro p e s m args below meth c A Q ha hr _ h ls hl hw
  have ha : am p s m args c cX1_addNeed 6 RX1 wsX1_addNeed D cy A := ha
  have hx := ha.1
  have hb := ha.2.1
  have hl : lv_has ls 6 [(0, .ref a_this), (1, .int x1), (2, .int x2), (3, .int x3), (4, .int x4)] := hl
  have h : wp_X1_areTwoPlaces x1 x2 v_rooms (fun (r1 : Int32) => (r1 = 0 → K (0 : Int32) v_needs v_needParts) ∧ (¬ (r1 = 0) → (x4 < x3 → K (0 : Int32) v_needs v_needParts) ∧ (¬ (x4 < x3) → (v_needs < (8 : Int32) → ∀ x5_5 : Int32, x5_5 = v_needs * (4 : Int32) → vp_in x5_5 32 ∧ (vp_in (x5_5 + (1 : Int32)) 32 ∧ (vp_in (x5_5 + (2 : Int32)) 32 ∧ (vp_in (x5_5 + (3 : Int32)) 32 ∧ (K (1 : Int32) (v_needs + (1 : Int32)) (upd (upd (upd (upd v_needParts x5_5.toNatClampNeg x1) (x5_5 + (1 : Int32)).toNatClampNeg x2) (x5_5 + (2 : Int32)).toNatClampNeg x3) (x5_5 + (3 : Int32)).toNatClampNeg x4)))))) ∧ (¬ (v_needs < (8 : Int32)) → K (0 : Int32) v_needs v_needParts)))) := h
  refine lv_aload_n hx hb dX1_addNeed_0 rfl (lv_at hl 0 rfl) ?_
  refine lv_iload_n hx hb dX1_addNeed_1 rfl (lv_at hl 1 rfl) ?_
  refine lv_iload_n hx hb dX1_addNeed_2 rfl (lv_at hl 2 rfl) ?_
  refine g_cvi (rm := { frames := 2, cells := 0, slots := 0, locals := 149 }) (wn := (fun (u : Unit) => (w_X1_addNeed cy a_this a_needParts w_work w_coats w_beside v_rooms v_doors v_needs v_needParts))) (As := [.int x1, .int x2]) ha hw hl.1 (c_X1_areTwoPlaces (cy := cy)) (cwV 2 ha.2.2.2.2.1 gX1_addNeed_X1_areTwoPlaces rfl rfl rfl hq_X1_areTwoPlaces ⟨Nat.le_of_ble_eq_true rfl, Nat.le_of_ble_eq_true rfl⟩) [0] [1] [1, 0] rfl rfl rfl rfl (by decide) rfl (fun _ => rfl) rfl rfl h rfl rfl (Nat.le_of_ble_eq_true rfl) dX1_addNeed_3 ⟨Nat.le_refl _, Nat.le_refl _⟩ (fun r1 u H locs h hw => ?_)
  have hw : wd D A s.heap (w_X1_addNeed cy a_this a_needParts w_work w_coats w_beside v_rooms v_doors v_needs v_needParts) H locs := hw
  obtain ⟨zr1, h⟩ := h
  try dsimp only at h
  refine lv_if_eq (tgt := 24) hx hb dX1_addNeed_6 (by decide) (fun c2 => ?_) (fun c2 => ?_)
  · have h := h.1 c2
    refine lv_iconst (v := (0 : Int32)) hx hb dX1_addNeed_24 (by decide) ?_
    exact hr _ _ (v_needs, v_needParts) _ _ _ dX1_addNeed_25 ⟨nz0, h⟩ hw
  · have h := h.2 c2
    refine lv_iload_n hx hb dX1_addNeed_9 rfl (lv_at hl 3 rfl) ?_
    refine lv_iload hx hb dX1_addNeed_10 (lv_at hl 4 rfl) ?_
    refine lv_icmp_gt (tgt := 24) hx hb dX1_addNeed_12 (by decide) (fun c3 => ?_) (fun c3 => ?_)
    · have h := h.1 c3
      refine lv_iconst (v := (0 : Int32)) hx hb dX1_addNeed_24 (by decide) ?_
      exact hr _ _ (v_needs, v_needParts) _ _ _ dX1_addNeed_25 ⟨nz0, h⟩ hw
    · have h := h.2 c3
      refine lv_aload_n hx hb dX1_addNeed_15 rfl (lv_at hl 0 rfl) ?_
      refine g_get (ci := 1) ha hw 0 2 rfl hi_X1_addNeed_1 (by decide) (List.mem_of_getElem? (i := 1) rfl) rfl rfl dX1_addNeed_16 ?_
      refine lv_bipush (v := (8 : Int32)) hx hb dX1_addNeed_19 (by decide) ?_
      refine lv_icmp_lt (tgt := 26) hx hb dX1_addNeed_21 (by decide) (fun c4 => ?_) (fun c4 => ?_)
      · have h := h.1 c4
        refine lv_aload_n hx hb dX1_addNeed_26 rfl (lv_at hl 0 rfl) ?_
        refine g_get (ci := 1) ha hw 0 2 rfl hi_X1_addNeed_1 (by decide) (List.mem_of_getElem? (i := 1) rfl) rfl rfl dX1_addNeed_27 ?_
        refine lv_iconst (v := (4 : Int32)) hx hb dX1_addNeed_30 (by decide) ?_
        refine lv_imul hx hb dX1_addNeed_31 ?_
        refine lv_topi (fun x5_5 ex5_5 => ?_)
        have h := h x5_5 ex5_5
        refine lv_istore (lv' := [(5, .int x5_5), (0, .ref a_this), (1, .int x1), (2, .int x2), (3, .int x3), (4, .int x4)]) hx hb dX1_addNeed_32 hl (by decide) rfl (fun ls hl => ?_)
        refine lv_aload_n hx hb dX1_addNeed_34 rfl (lv_at hl 1 rfl) ?_
        refine g_get (ci := 1) ha hw 0 6 rfl hi_X1_addNeed_1 (by decide) (List.mem_of_getElem? (i := 2) rfl) rfl rfl dX1_addNeed_35 ?_
        refine lv_iload hx hb dX1_addNeed_38 (lv_at hl 0 rfl) ?_
        refine lv_iload_n hx hb dX1_addNeed_40 rfl (lv_at hl 2 rfl) ?_
        obtain ⟨z6, h⟩ := h
        refine g_ast (wn := (w_X1_addNeed cy a_this a_needParts w_work w_coats w_beside v_rooms v_doors v_needs (upd v_needParts x5_5.toNatClampNeg x1))) ha hw 1 rfl z6 rfl dX1_addNeed_41 (fun H locs hw => ?_)
        refine lv_aload_n hx hb dX1_addNeed_42 rfl (lv_at hl 1 rfl) ?_
        refine g_get (ci := 1) ha hw 0 6 rfl hi_X1_addNeed_1 (by decide) (List.mem_of_getElem? (i := 2) rfl) rfl rfl dX1_addNeed_43 ?_
        refine lv_iload hx hb dX1_addNeed_46 (lv_at hl 0 rfl) ?_
        refine lv_iconst (v := (1 : Int32)) hx hb dX1_addNeed_48 (by decide) ?_
        refine lv_iadd hx hb dX1_addNeed_49 ?_
        refine lv_iload_n hx hb dX1_addNeed_50 rfl (lv_at hl 3 rfl) ?_
        obtain ⟨z7, h⟩ := h
        refine g_ast (wn := (w_X1_addNeed cy a_this a_needParts w_work w_coats w_beside v_rooms v_doors v_needs (upd (upd v_needParts x5_5.toNatClampNeg x1) (x5_5 + (1 : Int32)).toNatClampNeg x2))) ha hw 1 rfl z7 rfl dX1_addNeed_51 (fun H locs hw => ?_)
        refine lv_aload_n hx hb dX1_addNeed_52 rfl (lv_at hl 1 rfl) ?_
        refine g_get (ci := 1) ha hw 0 6 rfl hi_X1_addNeed_1 (by decide) (List.mem_of_getElem? (i := 2) rfl) rfl rfl dX1_addNeed_53 ?_
        refine lv_iload hx hb dX1_addNeed_56 (lv_at hl 0 rfl) ?_
        refine lv_iconst (v := (2 : Int32)) hx hb dX1_addNeed_58 (by decide) ?_
        refine lv_iadd hx hb dX1_addNeed_59 ?_
        refine lv_iload_n hx hb dX1_addNeed_60 rfl (lv_at hl 4 rfl) ?_
        obtain ⟨z8, h⟩ := h
        refine g_ast (wn := (w_X1_addNeed cy a_this a_needParts w_work w_coats w_beside v_rooms v_doors v_needs (upd (upd (upd v_needParts x5_5.toNatClampNeg x1) (x5_5 + (1 : Int32)).toNatClampNeg x2) (x5_5 + (2 : Int32)).toNatClampNeg x3))) ha hw 1 rfl z8 rfl dX1_addNeed_61 (fun H locs hw => ?_)
        refine lv_aload_n hx hb dX1_addNeed_62 rfl (lv_at hl 1 rfl) ?_
        refine g_get (ci := 1) ha hw 0 6 rfl hi_X1_addNeed_1 (by decide) (List.mem_of_getElem? (i := 2) rfl) rfl rfl dX1_addNeed_63 ?_
        refine lv_iload hx hb dX1_addNeed_66 (lv_at hl 0 rfl) ?_
        refine lv_iconst (v := (3 : Int32)) hx hb dX1_addNeed_68 (by decide) ?_
        refine lv_iadd hx hb dX1_addNeed_69 ?_
        refine lv_iload hx hb dX1_addNeed_70 (lv_at hl 5 rfl) ?_
        obtain ⟨z9, h⟩ := h
        refine g_ast (wn := (w_X1_addNeed cy a_this a_needParts w_work w_coats w_beside v_rooms v_doors v_needs (upd (upd (upd (upd v_needParts x5_5.toNatClampNeg x1) (x5_5 + (1 : Int32)).toNatClampNeg x2) (x5_5 + (2 : Int32)).toNatClampNeg x3) (x5_5 + (3 : Int32)).toNatClampNeg x4))) ha hw 1 rfl z9 rfl dX1_addNeed_72 (fun H locs hw => ?_)
        refine lv_aload_n hx hb dX1_addNeed_73 rfl (lv_at hl 1 rfl) ?_
        refine lv_dup hx hb dX1_addNeed_74 rfl ?_
        refine g_get (ci := 1) ha hw 0 2 rfl hi_X1_addNeed_1 (by decide) (List.mem_of_getElem? (i := 1) rfl) rfl rfl dX1_addNeed_75 ?_
        refine lv_iconst (v := (1 : Int32)) hx hb dX1_addNeed_78 (by decide) ?_
        refine lv_iadd hx hb dX1_addNeed_79 ?_
        refine g_put (ci := 1) (wn := (w_X1_addNeed cy a_this a_needParts w_work w_coats w_beside v_rooms v_doors (v_needs + (1 : Int32)) (upd (upd (upd (upd v_needParts x5_5.toNatClampNeg x1) (x5_5 + (1 : Int32)).toNatClampNeg x2) (x5_5 + (2 : Int32)).toNatClampNeg x3) (x5_5 + (3 : Int32)).toNatClampNeg x4))) ha hw 0 2 rfl hi_X1_addNeed_1 tyX1_ok nmX1 (by decide) (List.mem_of_getElem? (i := 1) rfl) rfl rfl rfl rfl (Nat.le_of_ble_eq_true rfl) rfl dX1_addNeed_80 (fun H locs hw => ?_)
        refine lv_iconst (v := (1 : Int32)) hx hb dX1_addNeed_83 (by decide) ?_
        exact hr _ _ (v_needs + (1 : Int32), upd (upd (upd (upd v_needParts x5_5.toNatClampNeg x1) (x5_5 + (1 : Int32)).toNatClampNeg x2) (x5_5 + (2 : Int32)).toNatClampNeg x3) (x5_5 + (3 : Int32)).toNatClampNeg x4) _ _ _ dX1_addNeed_84 ⟨nz1, h⟩ hw
      · have h := h.2 c4
        refine lv_iconst (v := (0 : Int32)) hx hb dX1_addNeed_24 (by decide) ?_
        exact hr _ _ (v_needs, v_needParts) _ _ _ dX1_addNeed_25 ⟨nz0, h⟩ hw
theorem hq_X1_leastOpenBeside : yX1_leastOpenBeside.cls = RX1 ∧ yX1_leastOpenBeside.cls ≠ "java/lang/invoke/MethodHandle" ∧ yX1_leastOpenBeside.cls ≠ "java/lang/invoke/VarHandle" ∧ (parseMethodDescriptor yX1_leastOpenBeside.desc).map (fun d => d.parameters.length) = some 2 := by decide +kernel
def w_X1_leastOpenBeside (cy : ClassId) (a_this a_beside : Nat) (w_work w_coats w_needParts : Value) (v_rooms : Int32) (v_doors : Int32) (v_needs : Int32) (v_beside : IA) : va_W := [(a_this, .inr (1, [.int v_rooms, .int v_doors, .int v_needs, w_work, w_coats, .ref a_beside, w_needParts])), (a_beside, .inl (cy, 6, .inl v_beside))]
theorem hi_X1_leastOpenBeside_1 : ∀ w ∈ u_ws RX1 TX1 7, w ∈ wsX1_leastOpenBeside := fun _ h => List.mem_cons_of_mem _ (List.mem_append_right _ h)
def wp_X1_leastOpenBeside_14 (x3 : Int32) (v_rooms : Int32) (K : Int32 → Prop) : Nat → Int32 → Prop
  | 0, _ => False
  | n + 1, x4 => (v_rooms < x4 → K (-9 : Int32)) ∧ (¬ (v_rooms < x4) → (((x3 >>> (x4 &&& 31)) &&& (1 : Int32)) = 0 → wp_X1_leastOpenBeside_14 x3 v_rooms K n (x4 + (1 : Int32))) ∧ (¬ (((x3 >>> (x4 &&& 31)) &&& (1 : Int32)) = 0) → K x4))
set_option maxHeartbeats 4000000 in
set_option maxRecDepth 100000 in
theorem pl_X1_leastOpenBeside_14 {p : Program} {l : Launch} {e : Env} {s : State} {m : MethodId} {args : Array Value} {below : List Frame} {meth : Method} {c : Code} {A : Nat → Prop} {Q : State → Prop} {D : va_G} {cy : ClassId} {a_this a_beside : Nat} {w_work w_coats w_needParts : Value} {v_rooms : Int32} {v_doors : Int32} {v_needs : Int32} {v_beside : IA} {x3 : Int32} {K : Int32 → Prop} (ha : am p s m args c cX1_leastOpenBeside 5 RX1 wsX1_leastOpenBeside D cy A) (hr : rtI p l e { frames := 1, cells := 0, slots := 0, locals := 64 } s m args below meth c 0 0 Q cX1_leastOpenBeside D A (fun (u : Unit) => (w_X1_leastOpenBeside cy a_this a_beside w_work w_coats w_needParts v_rooms v_doors v_needs v_beside)) (fun (r : Int32) (u : Unit) => K r)) : ∀ (n : Nat) (x4 : Int32) (H : Heap) (locs : List Loc) (ls : Array Slot), wp_X1_leastOpenBeside_14 x3 v_rooms K n x4 → wd D A s.heap (w_X1_leastOpenBeside cy a_this a_beside w_work w_coats w_needParts v_rooms v_doors v_needs v_beside) H locs → lv_has ls 5 [(0, .ref a_this), (3, .int x3), (4, .int x4)] → W p l e { frames := 1, cells := 0, slots := 0, locals := 64 } s m args below meth c H locs 0 0 Q (F0 m 14 ls []) := by
  have hx := ha.1
  have hb := ha.2.1
  intro n
  induction n with
  | zero => exact fun _ _ _ _ h _ _ => False.elim h
  | succ n ih =>
    intro x4 H locs ls h hw hl
    have h : (v_rooms < x4 → K (-9 : Int32)) ∧ (¬ (v_rooms < x4) → (((x3 >>> (x4 &&& 31)) &&& (1 : Int32)) = 0 → wp_X1_leastOpenBeside_14 x3 v_rooms K n (x4 + (1 : Int32))) ∧ (¬ (((x3 >>> (x4 &&& 31)) &&& (1 : Int32)) = 0) → K x4)) := h
    refine lv_iload hx hb dX1_leastOpenBeside_14 (lv_at hl 2 rfl) ?_
    refine lv_aload_n hx hb dX1_leastOpenBeside_16 rfl (lv_at hl 0 rfl) ?_
    refine g_get (ci := 1) ha hw 0 0 rfl hi_X1_leastOpenBeside_1 (by decide) (List.mem_of_getElem? (i := 2) rfl) rfl rfl dX1_leastOpenBeside_17 ?_
    refine lv_icmp_gt (tgt := 41) hx hb dX1_leastOpenBeside_20 (by decide) (fun c3 => ?_) (fun c3 => ?_)
    · have h := h.1 c3
      refine lv_bipush (v := (-9 : Int32)) hx hb dX1_leastOpenBeside_41 (by decide) ?_
      exact hr _ _ () _ _ _ dX1_leastOpenBeside_43 h hw
    · have h := h.2 c3
      refine lv_iload_n hx hb dX1_leastOpenBeside_23 rfl (lv_at hl 1 rfl) ?_
      refine lv_iload hx hb dX1_leastOpenBeside_24 (lv_at hl 2 rfl) ?_
      refine lv_ishr hx hb dX1_leastOpenBeside_26 ?_
      refine lv_iconst (v := (1 : Int32)) hx hb dX1_leastOpenBeside_27 (by decide) ?_
      refine lv_iand hx hb dX1_leastOpenBeside_28 ?_
      refine lv_if_eq (tgt := 35) hx hb dX1_leastOpenBeside_29 (by decide) (fun c4 => ?_) (fun c4 => ?_)
      · have h := h.1 c4
        refine lv_iinc (v := x4 + (1 : Int32)) (lv' := [(4, .int (x4 + (1 : Int32))), (0, .ref a_this), (3, .int x3)]) hx hb dX1_leastOpenBeside_35 hl (k := 2) rfl rfl (by decide) rfl (fun ls hl => ?_)
        refine lv_goto (tgt := 14) hx hb dX1_leastOpenBeside_38 (by decide) ?_
        exact ih _ _ _ _ h hw (lv_sub hl [1, 2, 0] rfl)
      · have h := h.2 c4
        refine lv_iload hx hb dX1_leastOpenBeside_32 (lv_at hl 2 rfl) ?_
        exact hr _ _ () _ _ _ dX1_leastOpenBeside_34 h hw
def wp_X1_leastOpenBeside (x1 : Int32) (x2 : Int32) (v_rooms : Int32) (v_beside : IA) (K : Int32 → Prop) : Prop := vp_in x1 6 ∧ (∀ x3_2 : Int32, x3_2 = (v_beside x1.toNatClampNeg) &&& (x2 ^^^ (-1 : Int32)) → ∃ n5 : Nat, wp_X1_leastOpenBeside_14 x3_2 v_rooms K n5 (0 : Int32))
set_option maxHeartbeats 4000000 in
set_option maxRecDepth 100000 in
theorem c_X1_leastOpenBeside {l : Launch} {D : va_G} {cy : ClassId} {a_this a_beside : Nat} {w_work w_coats w_needParts : Value} {v_rooms : Int32} {v_doors : Int32} {v_needs : Int32} {v_beside : IA} {x1 : Int32} {x2 : Int32} {K : Int32 → Prop} : CtI l yX1_leastOpenBeside wsX1_leastOpenBeside { frames := 1, cells := 0, slots := 0, locals := 64 } 0 0 D cy [.ref a_this, .int x1, .int x2] (w_X1_leastOpenBeside cy a_this a_beside w_work w_coats w_needParts v_rooms v_doors v_needs v_beside) (wp_X1_leastOpenBeside x1 x2 v_rooms v_beside K) (fun (u : Unit) => (w_X1_leastOpenBeside cy a_this a_beside w_work w_coats w_needParts v_rooms v_doors v_needs v_beside)) (fun (r : Int32) (u : Unit) => K r) := by
  refine CtI.mk (cc := cX1_leastOpenBeside) (nL := 5) (ty := .int) (by decide) rfl (Nat.le_of_ble_eq_true rfl) (fun r u h => rfl) ?_
  intro p e s m args below meth c A Q ha hr _ h ls hl hw
  have ha : am p s m args c cX1_leastOpenBeside 5 RX1 wsX1_leastOpenBeside D cy A := ha
  have hx := ha.1
  have hb := ha.2.1
  have hl : lv_has ls 5 [(0, .ref a_this), (1, .int x1), (2, .int x2)] := hl
  have h : vp_in x1 6 ∧ (∀ x3_2 : Int32, x3_2 = (v_beside x1.toNatClampNeg) &&& (x2 ^^^ (-1 : Int32)) → ∃ n5 : Nat, wp_X1_leastOpenBeside_14 x3_2 v_rooms K n5 (0 : Int32)) := h
  refine lv_aload_n hx hb dX1_leastOpenBeside_0 rfl (lv_at hl 0 rfl) ?_
  refine g_get (ci := 1) ha hw 0 5 rfl hi_X1_leastOpenBeside_1 (by decide) (List.mem_of_getElem? (i := 1) rfl) rfl rfl dX1_leastOpenBeside_1 ?_
  refine lv_iload_n hx hb dX1_leastOpenBeside_4 rfl (lv_at hl 1 rfl) ?_
  obtain ⟨z1, h⟩ := h
  refine g_ald ha hw 1 rfl z1 dX1_leastOpenBeside_5 ?_
  refine lv_iload_n hx hb dX1_leastOpenBeside_6 rfl (lv_at hl 2 rfl) ?_
  refine lv_iconst (v := (-1 : Int32)) hx hb dX1_leastOpenBeside_7 (by decide) ?_
  refine lv_ixor hx hb dX1_leastOpenBeside_8 ?_
  refine lv_iand hx hb dX1_leastOpenBeside_9 ?_
  refine lv_topi (fun x3_2 ex3_2 => ?_)
  have h := h x3_2 ex3_2
  refine lv_istore_n (lv' := [(3, .int x3_2), (0, .ref a_this), (1, .int x1), (2, .int x2)]) hx hb dX1_leastOpenBeside_10 rfl hl (by decide) rfl (fun ls hl => ?_)
  refine lv_iconst (v := (0 : Int32)) hx hb dX1_leastOpenBeside_11 (by decide) ?_
  refine lv_istore (lv' := [(4, .int (0 : Int32)), (3, .int x3_2), (0, .ref a_this), (1, .int x1), (2, .int x2)]) hx hb dX1_leastOpenBeside_12 hl (by decide) rfl (fun ls hl => ?_)
  obtain ⟨n9, h⟩ := h
  refine pl_X1_leastOpenBeside_14 ha hr n9 _ _ _ _ h hw (lv_sub hl [2, 1, 0] rfl)
theorem hq_X1_besideAny : yX1_besideAny.cls = RX1 ∧ yX1_besideAny.cls ≠ "java/lang/invoke/MethodHandle" ∧ yX1_besideAny.cls ≠ "java/lang/invoke/VarHandle" ∧ (parseMethodDescriptor yX1_besideAny.desc).map (fun d => d.parameters.length) = some 1 := by decide +kernel
def w_X1_besideAny (cy : ClassId) (a_this a_beside : Nat) (w_work w_coats w_needParts : Value) (v_rooms : Int32) (v_doors : Int32) (v_needs : Int32) (v_beside : IA) : va_W := [(a_this, .inr (1, [.int v_rooms, .int v_doors, .int v_needs, w_work, w_coats, .ref a_beside, w_needParts])), (a_beside, .inl (cy, 6, .inl v_beside))]
theorem hi_X1_besideAny_1 : ∀ w ∈ u_ws RX1 TX1 7, w ∈ wsX1_besideAny := fun _ h => List.mem_cons_of_mem _ (List.mem_append_right _ h)
def wp_X1_besideAny_4 (x1 : Int32) (v_rooms : Int32) (v_beside : IA) (K : Int32 → Prop) : Nat → Int32 → Int32 → Prop
  | 0, _, _ => False
  | n + 1, x2, x3 => (v_rooms < x3 → K x2) ∧ (¬ (v_rooms < x3) → (((x1 >>> (x3 &&& 31)) &&& (1 : Int32)) = 0 → wp_X1_besideAny_4 x1 v_rooms v_beside K n x2 (x3 + (1 : Int32))) ∧ (¬ (((x1 >>> (x3 &&& 31)) &&& (1 : Int32)) = 0) → vp_in x3 6 ∧ (∀ x2_4 : Int32, x2_4 = x2 ||| (v_beside x3.toNatClampNeg) → wp_X1_besideAny_4 x1 v_rooms v_beside K n x2_4 (x3 + (1 : Int32)))))
set_option maxHeartbeats 4000000 in
set_option maxRecDepth 100000 in
theorem pl_X1_besideAny_4 {p : Program} {l : Launch} {e : Env} {s : State} {m : MethodId} {args : Array Value} {below : List Frame} {meth : Method} {c : Code} {A : Nat → Prop} {Q : State → Prop} {D : va_G} {cy : ClassId} {a_this a_beside : Nat} {w_work w_coats w_needParts : Value} {v_rooms : Int32} {v_doors : Int32} {v_needs : Int32} {v_beside : IA} {x1 : Int32} {K : Int32 → Prop} (ha : am p s m args c cX1_besideAny 4 RX1 wsX1_besideAny D cy A) (hr : rtI p l e { frames := 1, cells := 0, slots := 0, locals := 64 } s m args below meth c 0 0 Q cX1_besideAny D A (fun (u : Unit) => (w_X1_besideAny cy a_this a_beside w_work w_coats w_needParts v_rooms v_doors v_needs v_beside)) (fun (r : Int32) (u : Unit) => K r)) : ∀ (n : Nat) (x2 : Int32) (x3 : Int32) (H : Heap) (locs : List Loc) (ls : Array Slot), wp_X1_besideAny_4 x1 v_rooms v_beside K n x2 x3 → wd D A s.heap (w_X1_besideAny cy a_this a_beside w_work w_coats w_needParts v_rooms v_doors v_needs v_beside) H locs → lv_has ls 4 [(0, .ref a_this), (1, .int x1), (2, .int x2), (3, .int x3)] → W p l e { frames := 1, cells := 0, slots := 0, locals := 64 } s m args below meth c H locs 0 0 Q (F0 m 4 ls []) := by
  have hx := ha.1
  have hb := ha.2.1
  intro n
  induction n with
  | zero => exact fun _ _ _ _ _ h _ _ => False.elim h
  | succ n ih =>
    intro x2 x3 H locs ls h hw hl
    have h : (v_rooms < x3 → K x2) ∧ (¬ (v_rooms < x3) → (((x1 >>> (x3 &&& 31)) &&& (1 : Int32)) = 0 → wp_X1_besideAny_4 x1 v_rooms v_beside K n x2 (x3 + (1 : Int32))) ∧ (¬ (((x1 >>> (x3 &&& 31)) &&& (1 : Int32)) = 0) → vp_in x3 6 ∧ (∀ x2_4 : Int32, x2_4 = x2 ||| (v_beside x3.toNatClampNeg) → wp_X1_besideAny_4 x1 v_rooms v_beside K n x2_4 (x3 + (1 : Int32))))) := h
    refine lv_iload_n hx hb dX1_besideAny_4 rfl (lv_at hl 3 rfl) ?_
    refine lv_aload_n hx hb dX1_besideAny_5 rfl (lv_at hl 0 rfl) ?_
    refine g_get (ci := 1) ha hw 0 0 rfl hi_X1_besideAny_1 (by decide) (List.mem_of_getElem? (i := 1) rfl) rfl rfl dX1_besideAny_6 ?_
    refine lv_icmp_gt (tgt := 35) hx hb dX1_besideAny_9 (by decide) (fun c1 => ?_) (fun c1 => ?_)
    · have h := h.1 c1
      refine lv_iload_n hx hb dX1_besideAny_35 rfl (lv_at hl 2 rfl) ?_
      exact hr _ _ () _ _ _ dX1_besideAny_36 h hw
    · have h := h.2 c1
      refine lv_iload_n hx hb dX1_besideAny_12 rfl (lv_at hl 1 rfl) ?_
      refine lv_iload_n hx hb dX1_besideAny_13 rfl (lv_at hl 3 rfl) ?_
      refine lv_ishr hx hb dX1_besideAny_14 ?_
      refine lv_iconst (v := (1 : Int32)) hx hb dX1_besideAny_15 (by decide) ?_
      refine lv_iand hx hb dX1_besideAny_16 ?_
      refine lv_if_eq (tgt := 29) hx hb dX1_besideAny_17 (by decide) (fun c2 => ?_) (fun c2 => ?_)
      · have h := h.1 c2
        refine lv_iinc (v := x3 + (1 : Int32)) (lv' := [(3, .int (x3 + (1 : Int32))), (0, .ref a_this), (1, .int x1), (2, .int x2)]) hx hb dX1_besideAny_29 hl (k := 3) rfl rfl (by decide) rfl (fun ls hl => ?_)
        refine lv_goto (tgt := 4) hx hb dX1_besideAny_32 (by decide) ?_
        exact ih _ _ _ _ _ h hw (lv_sub hl [1, 2, 3, 0] rfl)
      · have h := h.2 c2
        refine lv_iload_n hx hb dX1_besideAny_20 rfl (lv_at hl 2 rfl) ?_
        refine lv_aload_n hx hb dX1_besideAny_21 rfl (lv_at hl 0 rfl) ?_
        refine g_get (ci := 1) ha hw 0 5 rfl hi_X1_besideAny_1 (by decide) (List.mem_of_getElem? (i := 2) rfl) rfl rfl dX1_besideAny_22 ?_
        refine lv_iload_n hx hb dX1_besideAny_25 rfl (lv_at hl 3 rfl) ?_
        obtain ⟨z3, h⟩ := h
        refine g_ald ha hw 1 rfl z3 dX1_besideAny_26 ?_
        refine lv_ior hx hb dX1_besideAny_27 ?_
        refine lv_topi (fun x2_4 ex2_4 => ?_)
        have h := h x2_4 ex2_4
        refine lv_istore_n (lv' := [(2, .int x2_4), (0, .ref a_this), (1, .int x1), (3, .int x3)]) hx hb dX1_besideAny_28 rfl hl (by decide) rfl (fun ls hl => ?_)
        refine lv_iinc (v := x3 + (1 : Int32)) (lv' := [(3, .int (x3 + (1 : Int32))), (2, .int x2_4), (0, .ref a_this), (1, .int x1)]) hx hb dX1_besideAny_29 hl (k := 3) rfl rfl (by decide) rfl (fun ls hl => ?_)
        refine lv_goto (tgt := 4) hx hb dX1_besideAny_32 (by decide) ?_
        exact ih _ _ _ _ _ h hw (lv_sub hl [2, 3, 1, 0] rfl)
def wp_X1_besideAny (x1 : Int32) (v_rooms : Int32) (v_beside : IA) (K : Int32 → Prop) : Prop := ∃ n5 : Nat, wp_X1_besideAny_4 x1 v_rooms v_beside K n5 (0 : Int32) (0 : Int32)
set_option maxHeartbeats 4000000 in
set_option maxRecDepth 100000 in
theorem c_X1_besideAny {l : Launch} {D : va_G} {cy : ClassId} {a_this a_beside : Nat} {w_work w_coats w_needParts : Value} {v_rooms : Int32} {v_doors : Int32} {v_needs : Int32} {v_beside : IA} {x1 : Int32} {K : Int32 → Prop} : CtI l yX1_besideAny wsX1_besideAny { frames := 1, cells := 0, slots := 0, locals := 64 } 0 0 D cy [.ref a_this, .int x1] (w_X1_besideAny cy a_this a_beside w_work w_coats w_needParts v_rooms v_doors v_needs v_beside) (wp_X1_besideAny x1 v_rooms v_beside K) (fun (u : Unit) => (w_X1_besideAny cy a_this a_beside w_work w_coats w_needParts v_rooms v_doors v_needs v_beside)) (fun (r : Int32) (u : Unit) => K r) := by
  refine CtI.mk (cc := cX1_besideAny) (nL := 4) (ty := .int) (by decide) rfl (Nat.le_of_ble_eq_true rfl) (fun r u h => rfl) ?_
  intro p e s m args below meth c A Q ha hr _ h ls hl hw
  have ha : am p s m args c cX1_besideAny 4 RX1 wsX1_besideAny D cy A := ha
  have hx := ha.1
  have hb := ha.2.1
  have hl : lv_has ls 4 [(0, .ref a_this), (1, .int x1)] := hl
  have h : ∃ n5 : Nat, wp_X1_besideAny_4 x1 v_rooms v_beside K n5 (0 : Int32) (0 : Int32) := h
  refine lv_iconst (v := (0 : Int32)) hx hb dX1_besideAny_0 (by decide) ?_
  refine lv_istore_n (lv' := [(2, .int (0 : Int32)), (0, .ref a_this), (1, .int x1)]) hx hb dX1_besideAny_1 rfl hl (by decide) rfl (fun ls hl => ?_)
  refine lv_iconst (v := (0 : Int32)) hx hb dX1_besideAny_2 (by decide) ?_
  refine lv_istore_n (lv' := [(3, .int (0 : Int32)), (2, .int (0 : Int32)), (0, .ref a_this), (1, .int x1)]) hx hb dX1_besideAny_3 rfl hl (by decide) rfl (fun ls hl => ?_)
  obtain ⟨n9, h⟩ := h
  refine pl_X1_besideAny_4 ha hr n9 _ _ _ _ _ h hw (lv_sub hl [2, 3, 1, 0] rfl)
theorem hq_X1_doorsBetween : yX1_doorsBetween.cls = RX1 ∧ yX1_doorsBetween.cls ≠ "java/lang/invoke/MethodHandle" ∧ yX1_doorsBetween.cls ≠ "java/lang/invoke/VarHandle" ∧ (parseMethodDescriptor yX1_doorsBetween.desc).map (fun d => d.parameters.length) = some 3 := by decide +kernel
def w_X1_doorsBetween (cy : ClassId) (a_this a_beside : Nat) (w_work w_coats w_needParts : Value) (v_rooms : Int32) (v_doors : Int32) (v_needs : Int32) (v_beside : IA) : va_W := [(a_this, .inr (1, [.int v_rooms, .int v_doors, .int v_needs, w_work, w_coats, .ref a_beside, w_needParts])), (a_beside, .inl (cy, 6, .inl v_beside))]
def wp_X1_doorsBetween_21 (x2 : Int32) (x4 : Int32) (v_rooms : Int32) (v_beside : IA) (K : Int32 → Prop) : Nat → Int32 → Int32 → Prop
  | 0, _, _ => False
  | n + 1, x5, x6 => ((6 : Int32) ≤ x6 → K (-9 : Int32)) ∧ (¬ ((6 : Int32) ≤ x6) → (((x5 >>> (x2 &&& 31)) &&& (1 : Int32)) = 0 → wp_X1_besideAny x5 v_rooms v_beside (fun (r6 : Int32) => ∀ x5_7 : Int32, x5_7 = (x5 ||| r6) &&& x4 → wp_X1_doorsBetween_21 x2 x4 v_rooms v_beside K n x5_7 (x6 + (1 : Int32)))) ∧ (¬ (((x5 >>> (x2 &&& 31)) &&& (1 : Int32)) = 0) → K x6))
set_option maxHeartbeats 4000000 in
set_option maxRecDepth 100000 in
theorem pl_X1_doorsBetween_21 {p : Program} {l : Launch} {e : Env} {s : State} {m : MethodId} {args : Array Value} {below : List Frame} {meth : Method} {c : Code} {A : Nat → Prop} {Q : State → Prop} {D : va_G} {cy : ClassId} {a_this a_beside : Nat} {w_work w_coats w_needParts : Value} {v_rooms : Int32} {v_doors : Int32} {v_needs : Int32} {v_beside : IA} {x2 : Int32} {x4 : Int32} {K : Int32 → Prop} (ha : am p s m args c cX1_doorsBetween 7 RX1 wsX1_doorsBetween D cy A) (hr : rtI p l e { frames := 2, cells := 0, slots := 0, locals := 151 } s m args below meth c 0 0 Q cX1_doorsBetween D A (fun (u : Unit) => (w_X1_doorsBetween cy a_this a_beside w_work w_coats w_needParts v_rooms v_doors v_needs v_beside)) (fun (r : Int32) (u : Unit) => K r)) : ∀ (n : Nat) (x5 : Int32) (x6 : Int32) (H : Heap) (locs : List Loc) (ls : Array Slot), wp_X1_doorsBetween_21 x2 x4 v_rooms v_beside K n x5 x6 → wd D A s.heap (w_X1_doorsBetween cy a_this a_beside w_work w_coats w_needParts v_rooms v_doors v_needs v_beside) H locs → lv_has ls 7 [(0, .ref a_this), (2, .int x2), (4, .int x4), (5, .int x5), (6, .int x6)] → W p l e { frames := 2, cells := 0, slots := 0, locals := 151 } s m args below meth c H locs 0 0 Q (F0 m 21 ls []) := by
  have hx := ha.1
  have hb := ha.2.1
  intro n
  induction n with
  | zero => exact fun _ _ _ _ _ h _ _ => False.elim h
  | succ n ih =>
    intro x5 x6 H locs ls h hw hl
    have h : ((6 : Int32) ≤ x6 → K (-9 : Int32)) ∧ (¬ ((6 : Int32) ≤ x6) → (((x5 >>> (x2 &&& 31)) &&& (1 : Int32)) = 0 → wp_X1_besideAny x5 v_rooms v_beside (fun (r6 : Int32) => ∀ x5_7 : Int32, x5_7 = (x5 ||| r6) &&& x4 → wp_X1_doorsBetween_21 x2 x4 v_rooms v_beside K n x5_7 (x6 + (1 : Int32)))) ∧ (¬ (((x5 >>> (x2 &&& 31)) &&& (1 : Int32)) = 0) → K x6)) := h
    refine lv_iload hx hb dX1_doorsBetween_21 (lv_at hl 4 rfl) ?_
    refine lv_bipush (v := (6 : Int32)) hx hb dX1_doorsBetween_23 (by decide) ?_
    refine lv_icmp_ge (tgt := 60) hx hb dX1_doorsBetween_25 (by decide) (fun c4 => ?_) (fun c4 => ?_)
    · have h := h.1 c4
      refine lv_bipush (v := (-9 : Int32)) hx hb dX1_doorsBetween_60 (by decide) ?_
      exact hr _ _ () _ _ _ dX1_doorsBetween_62 h hw
    · have h := h.2 c4
      refine lv_iload hx hb dX1_doorsBetween_28 (lv_at hl 3 rfl) ?_
      refine lv_iload_n hx hb dX1_doorsBetween_30 rfl (lv_at hl 1 rfl) ?_
      refine lv_ishr hx hb dX1_doorsBetween_31 ?_
      refine lv_iconst (v := (1 : Int32)) hx hb dX1_doorsBetween_32 (by decide) ?_
      refine lv_iand hx hb dX1_doorsBetween_33 ?_
      refine lv_if_eq (tgt := 40) hx hb dX1_doorsBetween_34 (by decide) (fun c5 => ?_) (fun c5 => ?_)
      · have h := h.1 c5
        refine lv_iload hx hb dX1_doorsBetween_40 (lv_at hl 3 rfl) ?_
        refine lv_aload_n hx hb dX1_doorsBetween_42 rfl (lv_at hl 0 rfl) ?_
        refine lv_iload hx hb dX1_doorsBetween_43 (lv_at hl 3 rfl) ?_
        refine g_cvi (rm := { frames := 1, cells := 0, slots := 0, locals := 64 }) (wn := (fun (u : Unit) => (w_X1_doorsBetween cy a_this a_beside w_work w_coats w_needParts v_rooms v_doors v_needs v_beside))) (As := [.int x5]) ha hw hl.1 (c_X1_besideAny (cy := cy)) (cwV 1 ha.2.2.2.2.1 gX1_doorsBetween_X1_besideAny rfl rfl rfl hq_X1_besideAny ⟨Nat.le_of_ble_eq_true rfl, Nat.le_of_ble_eq_true rfl⟩) [0, 1] [] [0, 1] rfl rfl rfl rfl (by decide) rfl (fun _ => rfl) rfl rfl h rfl rfl (Nat.le_of_ble_eq_true rfl) dX1_doorsBetween_45 ⟨Nat.le_refl _, Nat.le_refl _⟩ (fun r6 u H locs h hw => ?_)
        have hw : wd D A s.heap (w_X1_doorsBetween cy a_this a_beside w_work w_coats w_needParts v_rooms v_doors v_needs v_beside) H locs := hw
        try dsimp only at h
        refine lv_ior hx hb dX1_doorsBetween_48 ?_
        refine lv_iload hx hb dX1_doorsBetween_49 (lv_at hl 2 rfl) ?_
        refine lv_iand hx hb dX1_doorsBetween_51 ?_
        refine lv_topi (fun x5_7 ex5_7 => ?_)
        have h := h x5_7 ex5_7
        refine lv_istore (lv' := [(5, .int x5_7), (0, .ref a_this), (2, .int x2), (4, .int x4), (6, .int x6)]) hx hb dX1_doorsBetween_52 hl (by decide) rfl (fun ls hl => ?_)
        refine lv_iinc (v := x6 + (1 : Int32)) (lv' := [(6, .int (x6 + (1 : Int32))), (5, .int x5_7), (0, .ref a_this), (2, .int x2), (4, .int x4)]) hx hb dX1_doorsBetween_54 hl (k := 4) rfl rfl (by decide) rfl (fun ls hl => ?_)
        refine lv_goto (tgt := 21) hx hb dX1_doorsBetween_57 (by decide) ?_
        exact ih _ _ _ _ _ h hw (lv_sub hl [2, 3, 4, 1, 0] rfl)
      · have h := h.2 c5
        refine lv_iload hx hb dX1_doorsBetween_37 (lv_at hl 4 rfl) ?_
        exact hr _ _ () _ _ _ dX1_doorsBetween_39 h hw
def wp_X1_doorsBetween (x1 : Int32) (x2 : Int32) (x3 : Int32) (v_rooms : Int32) (v_beside : IA) (K : Int32 → Prop) : Prop := wp_X1_everyPlace v_rooms (fun (r1 : Int32) => ∀ x4_2 : Int32, x4_2 = r1 &&& (x3 ^^^ (-1 : Int32)) → ∀ x5_3 : Int32, x5_3 = ((1 : Int32) <<< (x1 &&& 31)) &&& x4_2 → ∃ n8 : Nat, wp_X1_doorsBetween_21 x2 x4_2 v_rooms v_beside K n8 x5_3 (0 : Int32))
set_option maxHeartbeats 4000000 in
set_option maxRecDepth 100000 in
theorem c_X1_doorsBetween {l : Launch} {D : va_G} {cy : ClassId} {a_this a_beside : Nat} {w_work w_coats w_needParts : Value} {v_rooms : Int32} {v_doors : Int32} {v_needs : Int32} {v_beside : IA} {x1 : Int32} {x2 : Int32} {x3 : Int32} {K : Int32 → Prop} : CtI l yX1_doorsBetween wsX1_doorsBetween { frames := 2, cells := 0, slots := 0, locals := 151 } 0 0 D cy [.ref a_this, .int x1, .int x2, .int x3] (w_X1_doorsBetween cy a_this a_beside w_work w_coats w_needParts v_rooms v_doors v_needs v_beside) (wp_X1_doorsBetween x1 x2 x3 v_rooms v_beside K) (fun (u : Unit) => (w_X1_doorsBetween cy a_this a_beside w_work w_coats w_needParts v_rooms v_doors v_needs v_beside)) (fun (r : Int32) (u : Unit) => K r) := by
  refine CtI.mk (cc := cX1_doorsBetween) (nL := 7) (ty := .int) (by decide) rfl (Nat.le_of_ble_eq_true rfl) (fun r u h => rfl) ?_
  intro p e s m args below meth c A Q ha hr _ h ls hl hw
  have ha : am p s m args c cX1_doorsBetween 7 RX1 wsX1_doorsBetween D cy A := ha
  have hx := ha.1
  have hb := ha.2.1
  have hl : lv_has ls 7 [(0, .ref a_this), (1, .int x1), (2, .int x2), (3, .int x3)] := hl
  have h : wp_X1_everyPlace v_rooms (fun (r1 : Int32) => ∀ x4_2 : Int32, x4_2 = r1 &&& (x3 ^^^ (-1 : Int32)) → ∀ x5_3 : Int32, x5_3 = ((1 : Int32) <<< (x1 &&& 31)) &&& x4_2 → ∃ n8 : Nat, wp_X1_doorsBetween_21 x2 x4_2 v_rooms v_beside K n8 x5_3 (0 : Int32)) := h
  refine lv_aload_n hx hb dX1_doorsBetween_0 rfl (lv_at hl 0 rfl) ?_
  refine g_cvi (rm := { frames := 1, cells := 0, slots := 0, locals := 64 }) (wn := (fun (u : Unit) => (w_X1_doorsBetween cy a_this a_beside w_work w_coats w_needParts v_rooms v_doors v_needs v_beside))) (As := []) ha hw hl.1 (c_X1_everyPlace (cy := cy)) (cwV 0 ha.2.2.2.2.1 gX1_doorsBetween_X1_everyPlace rfl rfl rfl hq_X1_everyPlace ⟨Nat.le_of_ble_eq_true rfl, Nat.le_of_ble_eq_true rfl⟩) [0] [1] [1, 0] rfl rfl rfl rfl (by decide) rfl (fun _ => rfl) rfl rfl h rfl rfl (Nat.le_of_ble_eq_true rfl) dX1_doorsBetween_1 ⟨Nat.le_refl _, Nat.le_refl _⟩ (fun r1 u H locs h hw => ?_)
  have hw : wd D A s.heap (w_X1_doorsBetween cy a_this a_beside w_work w_coats w_needParts v_rooms v_doors v_needs v_beside) H locs := hw
  try dsimp only at h
  refine lv_iload_n hx hb dX1_doorsBetween_4 rfl (lv_at hl 3 rfl) ?_
  refine lv_iconst (v := (-1 : Int32)) hx hb dX1_doorsBetween_5 (by decide) ?_
  refine lv_ixor hx hb dX1_doorsBetween_6 ?_
  refine lv_iand hx hb dX1_doorsBetween_7 ?_
  refine lv_topi (fun x4_2 ex4_2 => ?_)
  have h := h x4_2 ex4_2
  refine lv_istore (lv' := [(4, .int x4_2), (0, .ref a_this), (1, .int x1), (2, .int x2), (3, .int x3)]) hx hb dX1_doorsBetween_8 hl (by decide) rfl (fun ls hl => ?_)
  refine lv_iconst (v := (1 : Int32)) hx hb dX1_doorsBetween_10 (by decide) ?_
  refine lv_iload_n hx hb dX1_doorsBetween_11 rfl (lv_at hl 2 rfl) ?_
  refine lv_ishl hx hb dX1_doorsBetween_12 ?_
  refine lv_iload hx hb dX1_doorsBetween_13 (lv_at hl 0 rfl) ?_
  refine lv_iand hx hb dX1_doorsBetween_15 ?_
  refine lv_topi (fun x5_3 ex5_3 => ?_)
  have h := h x5_3 ex5_3
  refine lv_istore (lv' := [(5, .int x5_3), (4, .int x4_2), (0, .ref a_this), (1, .int x1), (2, .int x2), (3, .int x3)]) hx hb dX1_doorsBetween_16 hl (by decide) rfl (fun ls hl => ?_)
  refine lv_iconst (v := (0 : Int32)) hx hb dX1_doorsBetween_18 (by decide) ?_
  refine lv_istore (lv' := [(6, .int (0 : Int32)), (5, .int x5_3), (4, .int x4_2), (0, .ref a_this), (1, .int x1), (2, .int x2), (3, .int x3)]) hx hb dX1_doorsBetween_19 hl (by decide) rfl (fun ls hl => ?_)
  obtain ⟨n9, h⟩ := h
  refine pl_X1_doorsBetween_21 ha hr n9 _ _ _ _ _ h hw (lv_sub hl [3, 5, 2, 1, 0] rfl)
