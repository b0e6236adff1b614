theorem hq_X10_set : yX10_set.cls = RX10 ∧ yX10_set.cls ≠ "java/lang/invoke/MethodHandle" ∧ yX10_set.cls ≠ "java/lang/invoke/VarHandle" ∧ (parseMethodDescriptor yX10_set.desc).map (fun d => d.parameters.length) = some 2 := by decide +kernel
def w_X10_set (cy : ClassId) (a_this a_refusals a_now a_now_habits : Nat) (w_tape w_houseReader w_houseDraft w_floorDraft w_ways w_judge w_search w_outing w_then w_now_building w_now_row w_now_ground : Value) (v_refusals : IA) (v_now_habits : IA) (v_now_planked : Int32) (v_imageTaken : Int32) : va_W := [(a_this, .inr (10, [.ref a_refusals, w_tape, w_houseReader, w_houseDraft, w_floorDraft, w_ways, w_judge, w_search, w_outing, .ref a_now, w_then, .int v_imageTaken])), (a_refusals, .inl (cy, 7, .inl v_refusals)), (a_now, .inr (6, [w_now_building, w_now_row, w_now_ground, .ref a_now_habits, .int v_now_planked])), (a_now_habits, .inl (cy, 4, .inl v_now_habits))]
theorem hi_X10_set_6 : ∀ w ∈ u_ws RX6 TX6 5, w ∈ wsX10_set := fun _ h => List.mem_cons_of_mem _ (List.mem_append_right _ h)
theorem hi_X10_set_10 : ∀ w ∈ u_ws RX10 TX10 12, w ∈ wsX10_set := fun _ h => List.mem_cons_of_mem _ (List.mem_append_left _ (List.mem_append_right _ h))
def wp_X10_set_9 (v_now_habits : IA) (K : Int32 → IA → IA → Prop) (v_refusals : IA) : Prop := wp_X10_refuse (-2 : Int32) v_refusals (fun (r2 : Int32) (v_refusals_3 : IA) => K r2 v_refusals_3 v_now_habits)
set_option maxHeartbeats 4000000 in
set_option maxRecDepth 100000 in
theorem pl_X10_set_9 {p : Program} {l : Launch} {e : Env} {s : State} {m : MethodId} {args : Array Value} {below : List Frame} {meth : Method} {c : Code} {A : Nat → Prop} {Q : State → Prop} {D : va_G} {cy : ClassId} {a_this a_refusals a_now a_now_habits : Nat} {w_tape w_houseReader w_houseDraft w_floorDraft w_ways w_judge w_search w_outing w_then w_now_building w_now_row w_now_ground : Value} {v_now_habits : IA} {v_now_planked : Int32} {v_imageTaken : Int32} {K : Int32 → IA → IA → Prop} (ha : am p s m args c cX10_set 4 RX10 wsX10_set D cy A) (hr : rtI p l e { frames := 2, cells := 0, slots := 0, locals := 150 } s m args below meth c 0 0 Q cX10_set D A (fun (u : IA × IA) => (w_X10_set cy a_this a_refusals a_now a_now_habits w_tape w_houseReader w_houseDraft w_floorDraft w_ways w_judge w_search w_outing w_then w_now_building w_now_row w_now_ground u.1 u.2 v_now_planked v_imageTaken)) (fun (r : Int32) (u : IA × IA) => K r u.1 u.2)) {v_refusals : IA} {H : Heap} {locs : List Loc} {ls : Array Slot} : wp_X10_set_9 v_now_habits K v_refusals → wd D A s.heap (w_X10_set cy a_this a_refusals a_now a_now_habits w_tape w_houseReader w_houseDraft w_floorDraft w_ways w_judge w_search w_outing w_then w_now_building w_now_row w_now_ground v_refusals v_now_habits v_now_planked v_imageTaken) H locs → lv_has ls 4 [(0, .ref a_this)] → W p l e { frames := 2, cells := 0, slots := 0, locals := 150 } s m args below meth c H locs 0 0 Q (F0 m 9 ls []) := by
  have hx := ha.1
  have hb := ha.2.1
  intro h hw hl
  have h : wp_X10_refuse (-2 : Int32) v_refusals (fun (r2 : Int32) (v_refusals_3 : IA) => K r2 v_refusals_3 v_now_habits) := h
  refine lv_aload_n hx hb dX10_set_9 rfl (lv_at hl 0 rfl) ?_
  refine lv_bipush (v := (-2 : Int32)) hx hb dX10_set_10 (by decide) ?_
  refine g_cvi (rm := { frames := 1, cells := 0, slots := 0, locals := 64 }) (wn := (fun (u : IA) => (w_X10_set cy a_this a_refusals a_now a_now_habits w_tape w_houseReader w_houseDraft w_floorDraft w_ways w_judge w_search w_outing w_then w_now_building w_now_row w_now_ground u v_now_habits v_now_planked v_imageTaken))) (As := [.int (-2 : Int32)]) ha hw hl.1 (c_X10_refuse (cy := cy)) (cwV 1 ha.2.2.2.2.1 gX10_set_X10_refuse rfl rfl rfl hq_X10_refuse ⟨Nat.le_of_ble_eq_true rfl, Nat.le_of_ble_eq_true rfl⟩) [0, 1] [2, 3] [2, 3, 0, 1] rfl rfl rfl rfl (by decide) rfl (fun _ => rfl) rfl rfl h rfl rfl (Nat.le_of_ble_eq_true rfl) dX10_set_12 ⟨Nat.le_refl _, Nat.le_refl _⟩ (fun r2 u H locs h hw => ?_)
  obtain ⟨v_refusals_3, rfl⟩ : ∃ z, z = u := ⟨_, rfl⟩
  have hw : wd D A s.heap (w_X10_set cy a_this a_refusals a_now a_now_habits w_tape w_houseReader w_houseDraft w_floorDraft w_ways w_judge w_search w_outing w_then w_now_building w_now_row w_now_ground v_refusals_3 v_now_habits v_now_planked v_imageTaken) H locs := hw
  try dsimp only at h
  exact hr _ _ (v_refusals_3, v_now_habits) _ _ _ dX10_set_15 h hw
def wp_X10_set (x1 : Int32) (x2 : Int32) (v_least v_most : IA) (v_refusals : IA) (v_now_habits : IA) (K : Int32 → IA → IA → Prop) : Prop := (x1 < 0 → wp_X10_set_9 v_now_habits K v_refusals) ∧ (¬ (x1 < 0) → (x1 < (4 : Int32) → vp_in x1 4 ∧ (((v_least x1.toNatClampNeg) ≤ x2 → (x2 ≤ (v_most x1.toNatClampNeg) → ∀ x3_8 : Int32, x3_8 = v_now_habits x1.toNatClampNeg → K x3_8 v_refusals (upd v_now_habits x1.toNatClampNeg x2)) ∧ (¬ (x2 ≤ (v_most x1.toNatClampNeg)) → wp_X10_refuse (-6 : Int32) v_refusals (fun (r9 : Int32) (v_refusals_10 : IA) => K r9 v_refusals_10 v_now_habits))) ∧ (¬ ((v_least x1.toNatClampNeg) ≤ x2) → wp_X10_refuse (-4 : Int32) v_refusals (fun (r11 : Int32) (v_refusals_12 : IA) => K r11 v_refusals_12 v_now_habits)))) ∧ (¬ (x1 < (4 : Int32)) → wp_X10_set_9 v_now_habits K v_refusals))
set_option maxHeartbeats 4000000 in
set_option maxRecDepth 100000 in
theorem c_X10_set {l : Launch} {D : va_G} {cy : ClassId} {a_this a_refusals a_now a_now_habits : Nat} {w_tape w_houseReader w_houseDraft w_floorDraft w_ways w_judge w_search w_outing w_then w_now_building w_now_row w_now_ground : Value} {v_refusals : IA} {v_now_habits : IA} {v_now_planked : Int32} {v_imageTaken : Int32} {x1 : Int32} {x2 : Int32} {v_least v_most : IA} {b_least b_most : Nat} {K : Int32 → IA → IA → Prop} : CtS l yX10_set wsX10_set { frames := 2, cells := 0, slots := 0, locals := 150 } 0 0 D cy b_least b_most v_least v_most [.ref a_this, .int x1, .int x2] (w_X10_set cy a_this a_refusals a_now a_now_habits w_tape w_houseReader w_houseDraft w_floorDraft w_ways w_judge w_search w_outing w_then w_now_building w_now_row w_now_ground v_refusals v_now_habits v_now_planked v_imageTaken) (wp_X10_set x1 x2 v_least v_most v_refusals v_now_habits K) (fun (u : IA × IA) => (w_X10_set cy a_this a_refusals a_now a_now_habits w_tape w_houseReader w_houseDraft w_floorDraft w_ways w_judge w_search w_outing w_then w_now_building w_now_row w_now_ground u.1 u.2 v_now_planked v_imageTaken)) (fun (r : Int32) (u : IA × IA) => K r u.1 u.2) := by
  refine CtS.mk (cc := cX10_set) (nL := 4) (by decide) rfl (Nat.le_of_ble_eq_true rfl) ?_
  intro p e s m args below meth c A Q ha hr hq h ls hl hw
  have ha : am p s m args c cX10_set 4 RX10 wsX10_set D cy A := ha
  have hx := ha.1
  have hb := ha.2.1
  have hl : lv_has ls 4 [(0, .ref a_this), (1, .int x1), (2, .int x2)] := hl
  have h : (x1 < 0 → wp_X10_set_9 v_now_habits K v_refusals) ∧ (¬ (x1 < 0) → (x1 < (4 : Int32) → vp_in x1 4 ∧ (((v_least x1.toNatClampNeg) ≤ x2 → (x2 ≤ (v_most x1.toNatClampNeg) → ∀ x3_8 : Int32, x3_8 = v_now_habits x1.toNatClampNeg → K x3_8 v_refusals (upd v_now_habits x1.toNatClampNeg x2)) ∧ (¬ (x2 ≤ (v_most x1.toNatClampNeg)) → wp_X10_refuse (-6 : Int32) v_refusals (fun (r9 : Int32) (v_refusals_10 : IA) => K r9 v_refusals_10 v_now_habits))) ∧ (¬ ((v_least x1.toNatClampNeg) ≤ x2) → wp_X10_refuse (-4 : Int32) v_refusals (fun (r11 : Int32) (v_refusals_12 : IA) => K r11 v_refusals_12 v_now_habits)))) ∧ (¬ (x1 < (4 : Int32)) → wp_X10_set_9 v_now_habits K v_refusals)) := h
  refine lv_iload_n hx hb dX10_set_0 rfl (lv_at hl 1 rfl) ?_
  refine lv_if_lt (tgt := 9) hx hb dX10_set_1 (by decide) (fun c1 => ?_) (fun c1 => ?_)
  · have h := h.1 c1
    refine pl_X10_set_9 ha hr h hw (lv_sub hl [0] rfl)
  · have h := h.2 c1
    refine lv_iload_n hx hb dX10_set_4 rfl (lv_at hl 1 rfl) ?_
    refine lv_iconst (v := (4 : Int32)) hx hb dX10_set_5 (by decide) ?_
    refine lv_icmp_lt (tgt := 16) hx hb dX10_set_6 (by decide) (fun c4 => ?_) (fun c4 => ?_)
    · have h := h.1 c4
      refine lv_iload_n hx hb dX10_set_16 rfl (lv_at hl 2 rfl) ?_
      refine va_getsN hx hb hq.1.1 hw.2.2 ha.2.2.2.1 (va_Nw.use rfl hq.1.2.2.2.2) (fun _ h9 => h9) dX10_set_17 ?_
      refine lv_iload_n hx hb dX10_set_20 rfl (lv_at hl 1 rfl) ?_
      obtain ⟨z5, h⟩ := h
      refine va_sld hx hb hq.1.2.1 hq.1.2.2.1 hq.1.2.2.2.1 hw.2.2 z5 dX10_set_21 ?_
      refine lv_icmp_ge (tgt := 32) hx hb dX10_set_22 (by decide) (fun c6 => ?_) (fun c6 => ?_)
      · have h := h.1 c6
        refine lv_iload_n hx hb dX10_set_32 rfl (lv_at hl 2 rfl) ?_
        refine va_getsN hx hb hq.2.1 hw.2.2 ha.2.2.2.1 (va_Nw.use rfl hq.2.2.2.2.2) (fun _ h9 => h9) dX10_set_33 ?_
        refine lv_iload_n hx hb dX10_set_36 rfl (lv_at hl 1 rfl) ?_
        refine va_sld hx hb hq.2.2.1 hq.2.2.2.1 hq.2.2.2.2.1 hw.2.2 z5 dX10_set_37 ?_
        refine lv_icmp_le (tgt := 48) hx hb dX10_set_38 (by decide) (fun c7 => ?_) (fun c7 => ?_)
        · have h := h.1 c7
          refine lv_aload_n hx hb dX10_set_48 rfl (lv_at hl 0 rfl) ?_
          refine g_get (ci := 10) ha hw 0 9 rfl hi_X10_set_10 (by decide) (List.mem_of_getElem? (i := 1) rfl) rfl rfl dX10_set_49 ?_
          refine g_getN (ci := 6) ha hw 2 3 35 rfl hi_X10_set_6 (by decide) rfl rfl rfl dX10_set_52 ?_
          refine lv_iload_n hx hb dX10_set_55 rfl (lv_at hl 1 rfl) ?_
          refine g_ald ha hw 3 rfl z5 dX10_set_56 ?_
          refine lv_topi (fun x3_8 ex3_8 => ?_)
          have h := h x3_8 ex3_8
          refine lv_istore_n (lv' := [(3, .int x3_8), (0, .ref a_this), (1, .int x1), (2, .int x2)]) hx hb dX10_set_57 rfl hl (by decide) rfl (fun ls hl => ?_)
          refine lv_aload_n hx hb dX10_set_58 rfl (lv_at hl 1 rfl) ?_
          refine g_get (ci := 10) ha hw 0 9 rfl hi_X10_set_10 (by decide) (List.mem_of_getElem? (i := 1) rfl) rfl rfl dX10_set_59 ?_
          refine g_getN (ci := 6) ha hw 2 3 35 rfl hi_X10_set_6 (by decide) rfl rfl rfl dX10_set_62 ?_
          refine lv_iload_n hx hb dX10_set_65 rfl (lv_at hl 2 rfl) ?_
          refine lv_iload_n hx hb dX10_set_66 rfl (lv_at hl 3 rfl) ?_
          refine g_ast (wn := (w_X10_set cy a_this a_refusals a_now a_now_habits w_tape w_houseReader w_houseDraft w_floorDraft w_ways w_judge w_search w_outing w_then w_now_building w_now_row w_now_ground v_refusals (upd v_now_habits x1.toNatClampNeg x2) v_now_planked v_imageTaken)) ha hw 3 rfl z5 rfl dX10_set_67 (fun H locs hw => ?_)
          refine lv_iload_n hx hb dX10_set_68 rfl (lv_at hl 0 rfl) ?_
          exact hr _ _ (v_refusals, upd v_now_habits x1.toNatClampNeg x2) _ _ _ dX10_set_69 h hw
        · have h := h.2 c7
          refine lv_aload_n hx hb dX10_set_41 rfl (lv_at hl 0 rfl) ?_
          refine lv_bipush (v := (-6 : Int32)) hx hb dX10_set_42 (by decide) ?_
          refine g_cvi (rm := { frames := 1, cells := 0, slots := 0, locals := 64 }) (wn := (fun (u : IA) => (w_X10_set cy a_this a_refusals a_now a_now_habits w_tape w_houseReader w_houseDraft w_floorDraft w_ways w_judge w_search w_outing w_then w_now_building w_now_row w_now_ground u v_now_habits v_now_planked v_imageTaken))) (As := [.int (-6 : Int32)]) ha hw hl.1 (c_X10_refuse (cy := cy)) (cwV 1 ha.2.2.2.2.1 gX10_set_X10_refuse rfl rfl rfl hq_X10_refuse ⟨Nat.le_of_ble_eq_true rfl, Nat.le_of_ble_eq_true rfl⟩) [0, 1] [2, 3] [2, 3, 0, 1] rfl rfl rfl rfl (by decide) rfl (fun _ => rfl) rfl rfl h rfl rfl (Nat.le_of_ble_eq_true rfl) dX10_set_44 ⟨Nat.le_refl _, Nat.le_refl _⟩ (fun r9 u H locs h hw => ?_)
          obtain ⟨v_refusals_10, rfl⟩ : ∃ z, z = u := ⟨_, rfl⟩
          have hw : wd D A s.heap (w_X10_set cy a_this a_refusals a_now a_now_habits w_tape w_houseReader w_houseDraft w_floorDraft w_ways w_judge w_search w_outing w_then w_now_building w_now_row w_now_ground v_refusals_10 v_now_habits v_now_planked v_imageTaken) H locs := hw
          try dsimp only at h
          exact hr _ _ (v_refusals_10, v_now_habits) _ _ _ dX10_set_47 h hw
      · have h := h.2 c6
        refine lv_aload_n hx hb dX10_set_25 rfl (lv_at hl 0 rfl) ?_
        refine lv_bipush (v := (-4 : Int32)) hx hb dX10_set_26 (by decide) ?_
        refine g_cvi (rm := { frames := 1, cells := 0, slots := 0, locals := 64 }) (wn := (fun (u : IA) => (w_X10_set cy a_this a_refusals a_now a_now_habits w_tape w_houseReader w_houseDraft w_floorDraft w_ways w_judge w_search w_outing w_then w_now_building w_now_row w_now_ground u v_now_habits v_now_planked v_imageTaken))) (As := [.int (-4 : Int32)]) ha hw hl.1 (c_X10_refuse (cy := cy)) (cwV 1 ha.2.2.2.2.1 gX10_set_X10_refuse rfl rfl rfl hq_X10_refuse ⟨Nat.le_of_ble_eq_true rfl, Nat.le_of_ble_eq_true rfl⟩) [0, 1] [2, 3] [2, 3, 0, 1] rfl rfl rfl rfl (by decide) rfl (fun _ => rfl) rfl rfl h rfl rfl (Nat.le_of_ble_eq_true rfl) dX10_set_28 ⟨Nat.le_refl _, Nat.le_refl _⟩ (fun r11 u H locs h hw => ?_)
        obtain ⟨v_refusals_12, rfl⟩ : ∃ z, z = u := ⟨_, rfl⟩
        have hw : wd D A s.heap (w_X10_set cy a_this a_refusals a_now a_now_habits w_tape w_houseReader w_houseDraft w_floorDraft w_ways w_judge w_search w_outing w_then w_now_building w_now_row w_now_ground v_refusals_12 v_now_habits v_now_planked v_imageTaken) H locs := hw
        try dsimp only at h
        exact hr _ _ (v_refusals_12, v_now_habits) _ _ _ dX10_set_31 h hw
    · have h := h.2 c4
      refine pl_X10_set_9 ha hr h hw (lv_sub hl [0] rfl)
theorem hq_X4_leastMoves : yX4_leastMoves.cls = RX4 ∧ yX4_leastMoves.cls ≠ "java/lang/invoke/MethodHandle" ∧ yX4_leastMoves.cls ≠ "java/lang/invoke/VarHandle" ∧ (parseMethodDescriptor yX4_leastMoves.desc).map (fun d => d.parameters.length) = some 1 := by decide +kernel
def w_X4_leastMoves (cy : ClassId) (a_this a_numbers a_beside a_been a_o1 a_o1_signs : Nat) (v_numbers : IA) (v_beside : IA) (v_been : IA) (v_squares : Int32) (v_door : Int32) (v_o1_signs : IA) (v_o1_rows : Int32) (v_o1_columns : Int32) (v_o1_squares : Int32) (v_o1_hasDoor : Int32) (v_o1_inRow : Int32) : va_W := [(a_this, .inr (4, [.ref a_numbers, .ref a_beside, .ref a_been, .int v_squares, .int v_door])), (a_numbers, .inl (cy, 25, .inl v_numbers)), (a_beside, .inl (cy, 10, .inl v_beside)), (a_been, .inl (cy, 1024, .inl v_been)), (a_o1, .inr (0, [.ref a_o1_signs, .int v_o1_rows, .int v_o1_columns, .int v_o1_squares, .int v_o1_hasDoor, .int v_o1_inRow])), (a_o1_signs, .inl (cy, 25, .inl v_o1_signs))]
theorem hi_X4_leastMoves_4 : ∀ w ∈ u_ws RX4 TX4 5, w ∈ wsX4_leastMoves := fun _ h => List.mem_cons_of_mem _ (List.mem_append_left _ (List.mem_append_right _ h))
def wp_X4_leastMoves_75 (x2 : Int32) (x3 : Int32) (v_numbers : IA) (v_beside : IA) (v_squares : Int32) (v_door : Int32) (K : Int32 → IA → IA → IA → Int32 → Int32 → Prop) : Nat → Int32 → IA → Prop
  | 0, _, _ => False
  | n + 1, x4, v_been => (x2 < x4 → K (-9 : Int32) v_numbers v_beside v_been v_squares v_door) ∧ (¬ (x2 < x4) → vp_in x3 1024 ∧ (wp_X4_frontOf ((1 : Int32) <<< (v_door &&& 31)) (fun (r12 : Int32) => (((v_been x3.toNatClampNeg) &&& r12) = 0 → wp_X4_moveOn v_beside v_been v_squares (fun (v_been_14 : IA) => wp_X4_leastMoves_75 x2 x3 v_numbers v_beside v_squares v_door K n (x4 + (1 : Int32)) v_been_14)) ∧ (¬ (((v_been x3.toNatClampNeg) &&& r12) = 0) → K x4 v_numbers v_beside v_been v_squares v_door))))
set_option maxHeartbeats 4000000 in
set_option maxRecDepth 100000 in
theorem pl_X4_leastMoves_75 {p : Program} {l : Launch} {e : Env} {s : State} {m : MethodId} {args : Array Value} {below : List Frame} {meth : Method} {c : Code} {A : Nat → Prop} {Q : State → Prop} {D : va_G} {cy : ClassId} {cs sl : Nat} {a_this a_numbers a_beside a_been a_o1 a_o1_signs : Nat} {v_numbers : IA} {v_beside : IA} {v_squares : Int32} {v_door : Int32} {v_o1_signs : IA} {v_o1_rows : Int32} {v_o1_columns : Int32} {v_o1_squares : Int32} {v_o1_hasDoor : Int32} {v_o1_inRow : Int32} {x2 : Int32} {x3 : Int32} {K : Int32 → IA → IA → IA → Int32 → Int32 → Prop} (ha : am p s m args c cX4_leastMoves 5 RX4 wsX4_leastMoves D cy A) (hr : rtI p l e { frames := 3, cells := cs, slots := sl, locals := 239 } s m args below meth c cs sl Q cX4_leastMoves D A (fun (u : IA × IA × IA × Int32 × Int32) => (w_X4_leastMoves cy a_this a_numbers a_beside a_been a_o1 a_o1_signs u.1 u.2.1 u.2.2.1 u.2.2.2.1 u.2.2.2.2 v_o1_signs v_o1_rows v_o1_columns v_o1_squares v_o1_hasDoor v_o1_inRow)) (fun (r : Int32) (u : IA × IA × IA × Int32 × Int32) => K r u.1 u.2.1 u.2.2.1 u.2.2.2.1 u.2.2.2.2)) : ∀ (n : Nat) (x4 : Int32) (v_been : IA) (H : Heap) (locs : List Loc) (ls : Array Slot), wp_X4_leastMoves_75 x2 x3 v_numbers v_beside v_squares v_door K n x4 v_been → wd D A s.heap (w_X4_leastMoves cy a_this a_numbers a_beside a_been a_o1 a_o1_signs v_numbers v_beside v_been v_squares v_door v_o1_signs v_o1_rows v_o1_columns v_o1_squares v_o1_hasDoor v_o1_inRow) H locs → lv_has ls 5 [(0, .ref a_this), (2, .int x2), (3, .int x3), (4, .int x4)] → W p l e { frames := 3, cells := cs, slots := sl, locals := 239 } s m args below meth c H locs cs sl Q (F0 m 75 ls []) := by
  have hx := ha.1
  have hb := ha.2.1
  intro n
  induction n with
  | zero => exact fun _ _ _ _ _ h _ _ => False.elim h
  | succ n ih =>
    intro x4 v_been H locs ls h hw hl
    have h : (x2 < x4 → K (-9 : Int32) v_numbers v_beside v_been v_squares v_door) ∧ (¬ (x2 < x4) → vp_in x3 1024 ∧ (wp_X4_frontOf ((1 : Int32) <<< (v_door &&& 31)) (fun (r12 : Int32) => (((v_been x3.toNatClampNeg) &&& r12) = 0 → wp_X4_moveOn v_beside v_been v_squares (fun (v_been_14 : IA) => wp_X4_leastMoves_75 x2 x3 v_numbers v_beside v_squares v_door K n (x4 + (1 : Int32)) v_been_14)) ∧ (¬ (((v_been x3.toNatClampNeg) &&& r12) = 0) → K x4 v_numbers v_beside v_been v_squares v_door)))) := h
    refine lv_iload hx hb dX4_leastMoves_75 (lv_at hl 3 rfl) ?_
    refine lv_iload_n hx hb dX4_leastMoves_77 rfl (lv_at hl 1 rfl) ?_
    refine lv_icmp_gt (tgt := 113) hx hb dX4_leastMoves_78 (by decide) (fun c10 => ?_) (fun c10 => ?_)
    · have h := h.1 c10
      refine lv_bipush (v := (-9 : Int32)) hx hb dX4_leastMoves_113 (by decide) ?_
      exact hr _ _ (v_numbers, v_beside, v_been, v_squares, v_door) _ _ _ dX4_leastMoves_115 h hw
    · have h := h.2 c10
      refine lv_aload_n hx hb dX4_leastMoves_81 rfl (lv_at hl 0 rfl) ?_
      refine g_get (ci := 4) ha hw 0 2 rfl hi_X4_leastMoves_4 (by decide) (List.mem_of_getElem? (i := 1) rfl) rfl rfl dX4_leastMoves_82 ?_
      refine lv_iload_n hx hb dX4_leastMoves_85 rfl (lv_at hl 2 rfl) ?_
      obtain ⟨z11, h⟩ := h
      refine g_ald ha hw 3 rfl z11 dX4_leastMoves_86 ?_
      refine lv_iconst (v := (1 : Int32)) hx hb dX4_leastMoves_87 (by decide) ?_
      refine lv_aload_n hx hb dX4_leastMoves_88 rfl (lv_at hl 0 rfl) ?_
      refine g_get (ci := 4) ha hw 0 4 rfl hi_X4_leastMoves_4 (by decide) (List.mem_of_getElem? (i := 3) rfl) rfl rfl dX4_leastMoves_89 ?_
      refine lv_ishl hx hb dX4_leastMoves_92 ?_
      refine g_csi (rm := { frames := 1, cells := 0, slots := 0, locals := 64 }) (wn := (fun (u : Unit) => (w_X4_leastMoves cy a_this a_numbers a_beside a_been a_o1 a_o1_signs v_numbers v_beside v_been v_squares v_door v_o1_signs v_o1_rows v_o1_columns v_o1_squares v_o1_hasDoor v_o1_inRow))) (As := [.int ((1 : Int32) <<< (v_door &&& 31))]) ha hw hl.1 (c_X4_frontOf (cy := cy)) (va_cwS 1 ha.2.2.2.2.1 gX4_leastMoves_X4_frontOf rfl rfl rfl hq_X4_frontOf ⟨Nat.le_of_ble_eq_true rfl, Nat.le_of_ble_eq_true rfl⟩) [] [0, 1, 2, 3, 4, 5] [0, 1, 2, 3, 4, 5] rfl rfl rfl rfl (by decide) rfl (fun _ => rfl) h rfl rfl (Nat.le_of_ble_eq_true rfl) dX4_leastMoves_93 ⟨Nat.le_refl _, Nat.le_refl _⟩ (fun r12 u H locs h hw => ?_)
      have hw : wd D A s.heap (w_X4_leastMoves cy a_this a_numbers a_beside a_been a_o1 a_o1_signs v_numbers v_beside v_been v_squares v_door v_o1_signs v_o1_rows v_o1_columns v_o1_squares v_o1_hasDoor v_o1_inRow) H locs := hw
      try dsimp only at h
      refine lv_iand hx hb dX4_leastMoves_96 ?_
      refine lv_if_eq (tgt := 103) hx hb dX4_leastMoves_97 (by decide) (fun c13 => ?_) (fun c13 => ?_)
      · have h := h.1 c13
        refine lv_aload_n hx hb dX4_leastMoves_103 rfl (lv_at hl 0 rfl) ?_
        refine g_cvv (rm := { frames := 2, cells := 0, slots := 0, locals := 151 }) (wn := (fun (u : IA) => (w_X4_leastMoves cy a_this a_numbers a_beside a_been a_o1 a_o1_signs v_numbers v_beside u v_squares v_door v_o1_signs v_o1_rows v_o1_columns v_o1_squares v_o1_hasDoor v_o1_inRow))) (As := []) ha hw hl.1 (c_X4_moveOn (cy := cy)) (cwV 0 ha.2.2.2.2.1 gX4_leastMoves_X4_moveOn rfl rfl rfl hq_X4_moveOn ⟨Nat.le_of_ble_eq_true rfl, Nat.le_of_ble_eq_true rfl⟩) [0, 2, 3] [1, 4, 5] [3, 0, 4, 5, 1, 2] rfl rfl rfl rfl (by decide) rfl (fun _ => rfl) rfl rfl h rfl rfl (Nat.le_of_ble_eq_true rfl) dX4_leastMoves_104 ⟨Nat.le_refl _, Nat.le_refl _⟩ (fun u H locs h hw => ?_)
        obtain ⟨v_been_14, rfl⟩ : ∃ z, z = u := ⟨_, rfl⟩
        have hw : wd D A s.heap (w_X4_leastMoves cy a_this a_numbers a_beside a_been a_o1 a_o1_signs v_numbers v_beside v_been_14 v_squares v_door v_o1_signs v_o1_rows v_o1_columns v_o1_squares v_o1_hasDoor v_o1_inRow) H locs := hw
        try dsimp only at h
        refine lv_iinc (v := x4 + (1 : Int32)) (lv' := [(4, .int (x4 + (1 : Int32))), (0, .ref a_this), (2, .int x2), (3, .int x3)]) hx hb dX4_leastMoves_107 hl (k := 3) rfl rfl (by decide) rfl (fun ls hl => ?_)
        refine lv_goto (tgt := 75) hx hb dX4_leastMoves_110 (by decide) ?_
        exact ih _ _ _ _ _ h hw (lv_sub hl [1, 2, 3, 0] rfl)
      · have h := h.2 c13
        refine lv_iload hx hb dX4_leastMoves_100 (lv_at hl 3 rfl) ?_
        exact hr _ _ (v_numbers, v_beside, v_been, v_squares, v_door) _ _ _ dX4_leastMoves_102 h hw
def wp_X4_leastMoves_26 (v_numbers : IA) (v_beside : IA) (v_squares : Int32) (v_door : Int32) (K : Int32 → IA → IA → IA → Int32 → Int32 → Prop) (v_been : IA) : Prop := wp_J7_fill_53178 (0 : Int32) (1024) v_been (fun (v_been_5 : IA) => wp_X4_frontOf ((1 : Int32) <<< (v_door &&& 31)) (fun (r6 : Int32) => vp_in ((1 : Int32) <<< (v_door &&& 31)) 1024 ∧ (∀ x2_8 : Int32, x2_8 = (2 : Int32) * (v_squares - (1 : Int32)) → ∀ x3_9 : Int32, x3_9 = ((1 : Int32) <<< (v_squares &&& 31)) - (1 : Int32) → ∃ n15 : Nat, wp_X4_leastMoves_75 x2_8 x3_9 v_numbers v_beside v_squares v_door K n15 (0 : Int32) (upd v_been_5 ((1 : Int32) <<< (v_door &&& 31)).toNatClampNeg r6))))
set_option maxHeartbeats 4000000 in
set_option maxRecDepth 100000 in
theorem pl_X4_leastMoves_26 {p : Program} {l : Launch} {e : Env} {s : State} {m : MethodId} {args : Array Value} {below : List Frame} {meth : Method} {c : Code} {A : Nat → Prop} {Q : State → Prop} {D : va_G} {cy : ClassId} {cs sl : Nat} {a_this a_numbers a_beside a_been a_o1 a_o1_signs : Nat} {v_numbers : IA} {v_beside : IA} {v_squares : Int32} {v_door : Int32} {v_o1_signs : IA} {v_o1_rows : Int32} {v_o1_columns : Int32} {v_o1_squares : Int32} {v_o1_hasDoor : Int32} {v_o1_inRow : Int32} {K : Int32 → IA → IA → IA → Int32 → Int32 → Prop} (ha : am p s m args c cX4_leastMoves 5 RX4 wsX4_leastMoves D cy A) (hr : rtI p l e { frames := 3, cells := cs, slots := sl, locals := 239 } s m args below meth c cs sl Q cX4_leastMoves D A (fun (u : IA × IA × IA × Int32 × Int32) => (w_X4_leastMoves cy a_this a_numbers a_beside a_been a_o1 a_o1_signs u.1 u.2.1 u.2.2.1 u.2.2.2.1 u.2.2.2.2 v_o1_signs v_o1_rows v_o1_columns v_o1_squares v_o1_hasDoor v_o1_inRow)) (fun (r : Int32) (u : IA × IA × IA × Int32 × Int32) => K r u.1 u.2.1 u.2.2.1 u.2.2.2.1 u.2.2.2.2)) {v_been : IA} {H : Heap} {locs : List Loc} {ls : Array Slot} : wp_X4_leastMoves_26 v_numbers v_beside v_squares v_door K v_been → wd D A s.heap (w_X4_leastMoves cy a_this a_numbers a_beside a_been a_o1 a_o1_signs v_numbers v_beside v_been v_squares v_door v_o1_signs v_o1_rows v_o1_columns v_o1_squares v_o1_hasDoor v_o1_inRow) H locs → lv_has ls 5 [(0, .ref a_this)] → W p l e { frames := 3, cells := cs, slots := sl, locals := 239 } s m args below meth c H locs cs sl Q (F0 m 26 ls []) := by
  have hx := ha.1
  have hb := ha.2.1
  intro h hw hl
  have h : wp_J7_fill_53178 (0 : Int32) (1024) v_been (fun (v_been_5 : IA) => wp_X4_frontOf ((1 : Int32) <<< (v_door &&& 31)) (fun (r6 : Int32) => vp_in ((1 : Int32) <<< (v_door &&& 31)) 1024 ∧ (∀ x2_8 : Int32, x2_8 = (2 : Int32) * (v_squares - (1 : Int32)) → ∀ x3_9 : Int32, x3_9 = ((1 : Int32) <<< (v_squares &&& 31)) - (1 : Int32) → ∃ n15 : Nat, wp_X4_leastMoves_75 x2_8 x3_9 v_numbers v_beside v_squares v_door K n15 (0 : Int32) (upd v_been_5 ((1 : Int32) <<< (v_door &&& 31)).toNatClampNeg r6)))) := h
  refine lv_aload_n hx hb dX4_leastMoves_26 rfl (lv_at hl 0 rfl) ?_
  refine g_get (ci := 4) ha hw 0 2 rfl hi_X4_leastMoves_4 (by decide) (List.mem_of_getElem? (i := 1) rfl) rfl rfl dX4_leastMoves_27 ?_
  refine lv_iconst (v := (0 : Int32)) hx hb dX4_leastMoves_30 (by decide) ?_
  refine g_csv (rm := { frames := 1, cells := 0, slots := 0, locals := 64 }) (wn := (fun (u : IA) => (w_X4_leastMoves cy a_this a_numbers a_beside a_been a_o1 a_o1_signs v_numbers v_beside u v_squares v_door v_o1_signs v_o1_rows v_o1_columns v_o1_squares v_o1_hasDoor v_o1_inRow))) (As := [.ref a_been, .int (0 : Int32)]) ha hw hl.1 (c_J7_fill_53178 (cy := cy)) (va_cwS 2 ha.2.2.2.2.1 gX4_leastMoves_J7_fill_53178 rfl rfl rfl hq_J7_fill_53178 ⟨Nat.le_of_ble_eq_true rfl, Nat.le_of_ble_eq_true rfl⟩) [3] [0, 1, 2, 4, 5] [0, 1, 2, 5, 3, 4] rfl rfl rfl rfl (by decide) rfl (fun _ => rfl) h rfl rfl (Nat.le_of_ble_eq_true rfl) dX4_leastMoves_31 ⟨Nat.le_refl _, Nat.le_refl _⟩ (fun u H locs h hw => ?_)
  obtain ⟨v_been_5, rfl⟩ : ∃ z, z = u := ⟨_, rfl⟩
  have hw : wd D A s.heap (w_X4_leastMoves cy a_this a_numbers a_beside a_been a_o1 a_o1_signs v_numbers v_beside v_been_5 v_squares v_door v_o1_signs v_o1_rows v_o1_columns v_o1_squares v_o1_hasDoor v_o1_inRow) H locs := hw
  try dsimp only at h
  refine lv_aload_n hx hb dX4_leastMoves_34 rfl (lv_at hl 0 rfl) ?_
  refine g_get (ci := 4) ha hw 0 2 rfl hi_X4_leastMoves_4 (by decide) (List.mem_of_getElem? (i := 1) rfl) rfl rfl dX4_leastMoves_35 ?_
  refine lv_iconst (v := (1 : Int32)) hx hb dX4_leastMoves_38 (by decide) ?_
  refine lv_aload_n hx hb dX4_leastMoves_39 rfl (lv_at hl 0 rfl) ?_
  refine g_get (ci := 4) ha hw 0 4 rfl hi_X4_leastMoves_4 (by decide) (List.mem_of_getElem? (i := 3) rfl) rfl rfl dX4_leastMoves_40 ?_
  refine lv_ishl hx hb dX4_leastMoves_43 ?_
  refine lv_iconst (v := (1 : Int32)) hx hb dX4_leastMoves_44 (by decide) ?_
  refine lv_aload_n hx hb dX4_leastMoves_45 rfl (lv_at hl 0 rfl) ?_
  refine g_get (ci := 4) ha hw 0 4 rfl hi_X4_leastMoves_4 (by decide) (List.mem_of_getElem? (i := 3) rfl) rfl rfl dX4_leastMoves_46 ?_
  refine lv_ishl hx hb dX4_leastMoves_49 ?_
  refine g_csi (rm := { frames := 1, cells := 0, slots := 0, locals := 64 }) (wn := (fun (u : Unit) => (w_X4_leastMoves cy a_this a_numbers a_beside a_been a_o1 a_o1_signs v_numbers v_beside v_been_5 v_squares v_door v_o1_signs v_o1_rows v_o1_columns v_o1_squares v_o1_hasDoor v_o1_inRow))) (As := [.int ((1 : Int32) <<< (v_door &&& 31))]) ha hw hl.1 (c_X4_frontOf (cy := cy)) (va_cwS 1 ha.2.2.2.2.1 gX4_leastMoves_X4_frontOf rfl rfl rfl hq_X4_frontOf ⟨Nat.le_of_ble_eq_true rfl, Nat.le_of_ble_eq_true rfl⟩) [] [0, 1, 2, 3, 4, 5] [0, 1, 2, 3, 4, 5] rfl rfl rfl rfl (by decide) rfl (fun _ => rfl) h rfl rfl (Nat.le_of_ble_eq_true rfl) dX4_leastMoves_50 ⟨Nat.le_refl _, Nat.le_refl _⟩ (fun r6 u H locs h hw => ?_)
  have hw : wd D A s.heap (w_X4_leastMoves cy a_this a_numbers a_beside a_been a_o1 a_o1_signs v_numbers v_beside v_been_5 v_squares v_door v_o1_signs v_o1_rows v_o1_columns v_o1_squares v_o1_hasDoor v_o1_inRow) H locs := hw
  try dsimp only at h
  obtain ⟨z7, h⟩ := h
  refine g_ast (wn := (w_X4_leastMoves cy a_this a_numbers a_beside a_been a_o1 a_o1_signs v_numbers v_beside (upd v_been_5 ((1 : Int32) <<< (v_door &&& 31)).toNatClampNeg r6) v_squares v_door v_o1_signs v_o1_rows v_o1_columns v_o1_squares v_o1_hasDoor v_o1_inRow)) ha hw 3 rfl z7 rfl dX4_leastMoves_53 (fun H locs hw => ?_)
  refine lv_iconst (v := (2 : Int32)) hx hb dX4_leastMoves_54 (by decide) ?_
  refine lv_aload_n hx hb dX4_leastMoves_55 rfl (lv_at hl 0 rfl) ?_
  refine g_get (ci := 4) ha hw 0 3 rfl hi_X4_leastMoves_4 (by decide) (List.mem_of_getElem? (i := 4) rfl) rfl rfl dX4_leastMoves_56 ?_
  refine lv_iconst (v := (1 : Int32)) hx hb dX4_leastMoves_59 (by decide) ?_
  refine lv_isub hx hb dX4_leastMoves_60 ?_
  refine lv_imul hx hb dX4_leastMoves_61 ?_
  refine lv_topi (fun x2_8 ex2_8 => ?_)
  have h := h x2_8 ex2_8
  refine lv_istore_n (lv' := [(2, .int x2_8), (0, .ref a_this)]) hx hb dX4_leastMoves_62 rfl hl (by decide) rfl (fun ls hl => ?_)
  refine lv_iconst (v := (1 : Int32)) hx hb dX4_leastMoves_63 (by decide) ?_
  refine lv_aload_n hx hb dX4_leastMoves_64 rfl (lv_at hl 1 rfl) ?_
  refine g_get (ci := 4) ha hw 0 3 rfl hi_X4_leastMoves_4 (by decide) (List.mem_of_getElem? (i := 4) rfl) rfl rfl dX4_leastMoves_65 ?_
  refine lv_ishl hx hb dX4_leastMoves_68 ?_
  refine lv_iconst (v := (1 : Int32)) hx hb dX4_leastMoves_69 (by decide) ?_
  refine lv_isub hx hb dX4_leastMoves_70 ?_
  refine lv_topi (fun x3_9 ex3_9 => ?_)
  have h := h x3_9 ex3_9
  refine lv_istore_n (lv' := [(3, .int x3_9), (2, .int x2_8), (0, .ref a_this)]) hx hb dX4_leastMoves_71 rfl hl (by decide) rfl (fun ls hl => ?_)
  refine lv_iconst (v := (0 : Int32)) hx hb dX4_leastMoves_72 (by decide) ?_
  refine lv_istore (lv' := [(4, .int (0 : Int32)), (3, .int x3_9), (2, .int x2_8), (0, .ref a_this)]) hx hb dX4_leastMoves_73 hl (by decide) rfl (fun ls hl => ?_)
  obtain ⟨n9, h⟩ := h
  refine pl_X4_leastMoves_75 ha hr n9 _ _ _ _ _ h hw (lv_sub hl [3, 2, 1, 0] rfl)
def wp_X4_leastMoves (v_numbers : IA) (v_beside : IA) (v_been : IA) (v_squares : Int32) (v_door : Int32) (v_o1_signs : IA) (v_o1_rows : Int32) (v_o1_columns : Int32) (K : Int32 → IA → IA → IA → Int32 → Int32 → Prop) : Prop := wp_X4_number v_numbers v_squares v_door v_o1_signs v_o1_rows v_o1_columns (fun (v_numbers_1 : IA) (v_squares_2 : Int32) (v_door_3 : Int32) => wp_X4_join v_numbers_1 v_beside v_o1_signs v_o1_rows v_o1_columns (fun (v_beside_4 : IA) => wp_X4_leastMoves_26 v_numbers_1 v_beside_4 v_squares_2 v_door_3 K v_been))
set_option maxHeartbeats 4000000 in
set_option maxRecDepth 100000 in
theorem c_X4_leastMoves {l : Launch} {D : va_G} {cy : ClassId} {a_this a_numbers a_beside a_been a_o1 a_o1_signs : Nat} {v_numbers : IA} {v_beside : IA} {v_been : IA} {v_squares : Int32} {v_door : Int32} {v_o1_signs : IA} {v_o1_rows : Int32} {v_o1_columns : Int32} {v_o1_squares : Int32} {v_o1_hasDoor : Int32} {v_o1_inRow : Int32} {K : Int32 → IA → IA → IA → Int32 → Int32 → Prop} : CtI l yX4_leastMoves wsX4_leastMoves { frames := 3, cells := 0, slots := 0, locals := 239 } 0 0 D cy [.ref a_this, .ref a_o1] (w_X4_leastMoves cy a_this a_numbers a_beside a_been a_o1 a_o1_signs v_numbers v_beside v_been v_squares v_door v_o1_signs v_o1_rows v_o1_columns v_o1_squares v_o1_hasDoor v_o1_inRow) (wp_X4_leastMoves v_numbers v_beside v_been v_squares v_door v_o1_signs v_o1_rows v_o1_columns K) (fun (u : IA × IA × IA × Int32 × Int32) => (w_X4_leastMoves cy a_this a_numbers a_beside a_been a_o1 a_o1_signs u.1 u.2.1 u.2.2.1 u.2.2.2.1 u.2.2.2.2 v_o1_signs v_o1_rows v_o1_columns v_o1_squares v_o1_hasDoor v_o1_inRow)) (fun (r : Int32) (u : IA × IA × IA × Int32 × Int32) => K r u.1 u.2.1 u.2.2.1 u.2.2.2.1 u.2.2.2.2) := by
  refine CtI.mk (cc := cX4_leastMoves) (nL := 5) (ty := .int) (by decide) rfl (Nat.le_of_ble_eq_true rfl) (fun r u h => rfl) ?_
  intro p e s m args below meth c A Q ha hr _ h ls hl hw
  have ha : am p s m args c cX4_leastMoves 5 RX4 wsX4_leastMoves D cy A := ha
  have hx := ha.1
  have hb := ha.2.1
  have hl : lv_has ls 5 [(0, .ref a_this), (1, .ref a_o1)] := hl
  have h : wp_X4_number v_numbers v_squares v_door v_o1_signs v_o1_rows v_o1_columns (fun (v_numbers_1 : IA) (v_squares_2 : Int32) (v_door_3 : Int32) => wp_X4_join v_numbers_1 v_beside v_o1_signs v_o1_rows v_o1_columns (fun (v_beside_4 : IA) => wp_X4_leastMoves_26 v_numbers_1 v_beside_4 v_squares_2 v_door_3 K v_been)) := h
  refine lv_aload_n hx hb dX4_leastMoves_0 rfl (lv_at hl 0 rfl) ?_
  refine lv_aload_n hx hb dX4_leastMoves_1 rfl (lv_at hl 1 rfl) ?_
  refine g_cvv (rm := { frames := 2, cells := 0, slots := 0, locals := 151 }) (wn := (fun (u : IA × Int32 × Int32) => (w_X4_leastMoves cy a_this a_numbers a_beside a_been a_o1 a_o1_signs u.1 v_beside v_been u.2.1 u.2.2 v_o1_signs v_o1_rows v_o1_columns v_o1_squares v_o1_hasDoor v_o1_inRow))) (As := [.ref a_o1]) ha hw hl.1 (c_X4_number (cy := cy)) (cwV 1 ha.2.2.2.2.1 gX4_leastMoves_X4_number rfl rfl rfl hq_X4_number ⟨Nat.le_of_ble_eq_true rfl, Nat.le_of_ble_eq_true rfl⟩) [0, 1, 4, 5] [2, 3] [2, 3, 0, 1, 4, 5] rfl rfl rfl rfl (by decide) rfl (fun _ => rfl) rfl rfl h rfl rfl (Nat.le_of_ble_eq_true rfl) dX4_leastMoves_2 ⟨Nat.le_refl _, Nat.le_refl _⟩ (fun u H locs h hw => ?_)
  obtain ⟨v_numbers_1, v_squares_2, v_door_3⟩ := u
  have hw : wd D A s.heap (w_X4_leastMoves cy a_this a_numbers a_beside a_been a_o1 a_o1_signs v_numbers_1 v_beside v_been v_squares_2 v_door_3 v_o1_signs v_o1_rows v_o1_columns v_o1_squares v_o1_hasDoor v_o1_inRow) H locs := hw
  try dsimp only at h
  refine lv_aload_n hx hb dX4_leastMoves_5 rfl (lv_at hl 0 rfl) ?_
  refine lv_aload_n hx hb dX4_leastMoves_6 rfl (lv_at hl 1 rfl) ?_
  refine g_cvv (rm := { frames := 2, cells := 0, slots := 0, locals := 151 }) (wn := (fun (u : IA) => (w_X4_leastMoves cy a_this a_numbers a_beside a_been a_o1 a_o1_signs v_numbers_1 u v_been v_squares_2 v_door_3 v_o1_signs v_o1_rows v_o1_columns v_o1_squares v_o1_hasDoor v_o1_inRow))) (As := [.ref a_o1]) ha hw hl.1 (c_X4_join (cy := cy)) (cwV 1 ha.2.2.2.2.1 gX4_leastMoves_X4_join rfl rfl rfl hq_X4_join ⟨Nat.le_of_ble_eq_true rfl, Nat.le_of_ble_eq_true rfl⟩) [0, 1, 2, 4, 5] [3] [1, 2, 3, 0, 4, 5] rfl rfl rfl rfl (by decide) rfl (fun _ => rfl) rfl rfl h rfl rfl (Nat.le_of_ble_eq_true rfl) dX4_leastMoves_7 ⟨Nat.le_refl _, Nat.le_refl _⟩ (fun u H locs h hw => ?_)
  obtain ⟨v_beside_4, rfl⟩ : ∃ z, z = u := ⟨_, rfl⟩
  have hw : wd D A s.heap (w_X4_leastMoves cy a_this a_numbers a_beside a_been a_o1 a_o1_signs v_numbers_1 v_beside_4 v_been v_squares_2 v_door_3 v_o1_signs v_o1_rows v_o1_columns v_o1_squares v_o1_hasDoor v_o1_inRow) H locs := hw
  try dsimp only at h
  refine lv_aload_n hx hb dX4_leastMoves_10 rfl (lv_at hl 0 rfl) ?_
  refine g_get (ci := 4) ha hw 0 2 rfl hi_X4_leastMoves_4 (by decide) (List.mem_of_getElem? (i := 1) rfl) rfl rfl dX4_leastMoves_11 ?_
  refine lv_ifnonnull (tgt := 26) hx hb dX4_leastMoves_14 (by decide) ?_
  refine pl_X4_leastMoves_26 ha hr h hw (lv_sub hl [0] rfl)
theorem hq_X10_out : yX10_out.cls = RX10 ∧ yX10_out.cls ≠ "java/lang/invoke/MethodHandle" ∧ yX10_out.cls ≠ "java/lang/invoke/VarHandle" ∧ (parseMethodDescriptor yX10_out.desc).map (fun d => d.parameters.length) = some 0 := by decide +kernel
def w_X10_out (cy : ClassId) (a_this a_refusals a_outing a_outing_numbers a_outing_beside a_outing_been a_now a_now_ground a_now_ground_signs : Nat) (w_tape w_houseReader w_houseDraft w_floorDraft w_ways w_judge w_search w_then w_now_building w_now_row w_now_habits : Value) (v_refusals : IA) (v_outing_numbers : IA) (v_outing_beside : IA) (v_outing_been : IA) (v_outing_squares : Int32) (v_outing_door : Int32) (v_now_ground_signs : IA) (v_now_ground_rows : Int32) (v_now_ground_columns : Int32) (v_now_ground_squares : Int32) (v_now_ground_hasDoor : Int32) (v_now_ground_inRow : Int32) (v_now_planked : Int32) (v_imageTaken : Int32) : va_W := [(a_this, .inr (10, [.ref a_refusals, w_tape, w_houseReader, w_houseDraft, w_floorDraft, w_ways, w_judge, w_search, .ref a_outing, .ref a_now, w_then, .int v_imageTaken])), (a_refusals, .inl (cy, 7, .inl v_refusals)), (a_outing, .inr (4, [.ref a_outing_numbers, .ref a_outing_beside, .ref a_outing_been, .int v_outing_squares, .int v_outing_door])), (a_outing_numbers, .inl (cy, 25, .inl v_outing_numbers)), (a_outing_beside, .inl (cy, 10, .inl v_outing_beside)), (a_outing_been, .inl (cy, 1024, .inl v_outing_been)), (a_now, .inr (6, [w_now_building, w_now_row, .ref a_now_ground, w_now_habits, .int v_now_planked])), (a_now_ground, .inr (0, [.ref a_now_ground_signs, .int v_now_ground_rows, .int v_now_ground_columns, .int v_now_ground_squares, .int v_now_ground_hasDoor, .int v_now_ground_inRow])), (a_now_ground_signs, .inl (cy, 25, .inl v_now_ground_signs))]
theorem hi_X10_out_0 : ∀ w ∈ u_ws RX0 TX0 6, w ∈ wsX10_out := fun _ h => List.mem_cons_of_mem _ (List.mem_append_left _ (List.mem_append_right _ h))
theorem hi_X10_out_6 : ∀ w ∈ u_ws RX6 TX6 5, w ∈ wsX10_out := fun _ h => List.mem_cons_of_mem _ (List.mem_append_left _ (List.mem_append_left _ (List.mem_append_right _ h)))
theorem hi_X10_out_10 : ∀ w ∈ u_ws RX10 TX10 12, w ∈ wsX10_out := fun _ h => List.mem_cons_of_mem _ (List.mem_append_left _ (List.mem_append_left _ (List.mem_append_left _ (List.mem_append_right _ h))))
def wp_X10_out (v_refusals : IA) (v_outing_numbers : IA) (v_outing_beside : IA) (v_outing_been : IA) (v_outing_squares : Int32) (v_outing_door : Int32) (v_now_ground_signs : IA) (v_now_ground_rows : Int32) (v_now_ground_columns : Int32) (v_now_ground_squares : Int32) (K : Int32 → IA → IA → IA → IA → Int32 → Int32 → Prop) : Prop := (v_now_ground_squares = 0 → wp_X10_refuse (-3 : Int32) v_refusals (fun (r8 : Int32) (v_refusals_9 : IA) => K r8 v_refusals_9 v_outing_numbers v_outing_beside v_outing_been v_outing_squares v_outing_door)) ∧ (¬ (v_now_ground_squares = 0) → wp_X4_leastMoves v_outing_numbers v_outing_beside v_outing_been v_outing_squares v_outing_door v_now_ground_signs v_now_ground_rows v_now_ground_columns (fun (r2 : Int32) (v_outing_numbers_3 : IA) (v_outing_beside_4 : IA) (v_outing_been_5 : IA) (v_outing_squares_6 : Int32) (v_outing_door_7 : Int32) => K r2 v_refusals v_outing_numbers_3 v_outing_beside_4 v_outing_been_5 v_outing_squares_6 v_outing_door_7))
set_option maxHeartbeats 4000000 in
set_option maxRecDepth 100000 in
theorem c_X10_out {l : Launch} {D : va_G} {cy : ClassId} {a_this a_refusals a_outing a_outing_numbers a_outing_beside a_outing_been a_now a_now_ground a_now_ground_signs : Nat} {w_tape w_houseReader w_houseDraft w_floorDraft w_ways w_judge w_search w_then w_now_building w_now_row w_now_habits : Value} {v_refusals : IA} {v_outing_numbers : IA} {v_outing_beside : IA} {v_outing_been : IA} {v_outing_squares : Int32} {v_outing_door : Int32} {v_now_ground_signs : IA} {v_now_ground_rows : Int32} {v_now_ground_columns : Int32} {v_now_ground_squares : Int32} {v_now_ground_hasDoor : Int32} {v_now_ground_inRow : Int32} {v_now_planked : Int32} {v_imageTaken : Int32} {K : Int32 → IA → IA → IA → IA → Int32 → Int32 → Prop} : CtI l yX10_out wsX10_out { frames := 4, cells := 0, slots := 0, locals := 327 } 0 0 D cy [.ref a_this] (w_X10_out cy a_this a_refusals a_outing a_outing_numbers a_outing_beside a_outing_been a_now a_now_ground a_now_ground_signs w_tape w_houseReader w_houseDraft w_floorDraft w_ways w_judge w_search w_then w_now_building w_now_row w_now_habits v_refusals v_outing_numbers v_outing_beside v_outing_been v_outing_squares v_outing_door v_now_ground_signs v_now_ground_rows v_now_ground_columns v_now_ground_squares v_now_ground_hasDoor v_now_ground_inRow v_now_planked v_imageTaken) (wp_X10_out v_refusals v_outing_numbers v_outing_beside v_outing_been v_outing_squares v_outing_door v_now_ground_signs v_now_ground_rows v_now_ground_columns v_now_ground_squares K) (fun (u : IA × IA × IA × IA × Int32 × Int32) => (w_X10_out cy a_this a_refusals a_outing a_outing_numbers a_outing_beside a_outing_been a_now a_now_ground a_now_ground_signs w_tape w_houseReader w_houseDraft w_floorDraft w_ways w_judge w_search w_then w_now_building w_now_row w_now_habits u.1 u.2.1 u.2.2.1 u.2.2.2.1 u.2.2.2.2.1 u.2.2.2.2.2 v_now_ground_signs v_now_ground_rows v_now_ground_columns v_now_ground_squares v_now_ground_hasDoor v_now_ground_inRow v_now_planked v_imageTaken)) (fun (r : Int32) (u : IA × IA × IA × IA × Int32 × Int32) => K r u.1 u.2.1 u.2.2.1 u.2.2.2.1 u.2.2.2.2.1 u.2.2.2.2.2) := by
  refine CtI.mk (cc := cX10_out) (nL := 1) (ty := .int) (by decide) rfl (Nat.le_of_ble_eq_true rfl) (fun r u h => rfl) ?_
  intro p e s m args below meth c A Q ha hr _ h ls hl hw
  have ha : am p s m args c cX10_out 1 RX10 wsX10_out D cy A := ha
  have hx := ha.1
  have hb := ha.2.1
  have hl : lv_has ls 1 [(0, .ref a_this)] := hl
  have h : (v_now_ground_squares = 0 → wp_X10_refuse (-3 : Int32) v_refusals (fun (r8 : Int32) (v_refusals_9 : IA) => K r8 v_refusals_9 v_outing_numbers v_outing_beside v_outing_been v_outing_squares v_outing_door)) ∧ (¬ (v_now_ground_squares = 0) → wp_X4_leastMoves v_outing_numbers v_outing_beside v_outing_been v_outing_squares v_outing_door v_now_ground_signs v_now_ground_rows v_now_ground_columns (fun (r2 : Int32) (v_outing_numbers_3 : IA) (v_outing_beside_4 : IA) (v_outing_been_5 : IA) (v_outing_squares_6 : Int32) (v_outing_door_7 : Int32) => K r2 v_refusals v_outing_numbers_3 v_outing_beside_4 v_outing_been_5 v_outing_squares_6 v_outing_door_7)) := h
  refine lv_aload_n hx hb dX10_out_0 rfl (lv_at hl 0 rfl) ?_
  refine g_get (ci := 10) ha hw 0 9 rfl hi_X10_out_10 (by decide) (List.mem_of_getElem? (i := 1) rfl) rfl rfl dX10_out_1 ?_
  refine g_getN (ci := 6) ha hw 6 2 33 rfl hi_X10_out_6 (by decide) rfl rfl rfl dX10_out_4 ?_
  refine g_getN (ci := 0) ha hw 7 3 18 rfl hi_X10_out_0 (by decide) rfl rfl rfl dX10_out_7 ?_
  refine lv_if_ne (tgt := 20) hx hb dX10_out_10 (by decide) (fun c1 => ?_) (fun c1 => ?_)
  · have h := h.2 c1
    refine lv_aload_n hx hb dX10_out_20 rfl (lv_at hl 0 rfl) ?_
    refine g_get (ci := 10) ha hw 0 8 rfl hi_X10_out_10 (by decide) (List.mem_of_getElem? (i := 2) rfl) rfl rfl dX10_out_21 ?_
    refine lv_aload_n hx hb dX10_out_24 rfl (lv_at hl 0 rfl) ?_
    refine g_get (ci := 10) ha hw 0 9 rfl hi_X10_out_10 (by decide) (List.mem_of_getElem? (i := 1) rfl) rfl rfl dX10_out_25 ?_
    refine g_getN (ci := 6) ha hw 6 2 33 rfl hi_X10_out_6 (by decide) rfl rfl rfl dX10_out_28 ?_
    refine g_cvi (rm := { frames := 3, cells := 0, slots := 0, locals := 239 }) (wn := (fun (u : IA × IA × IA × Int32 × Int32) => (w_X10_out cy a_this a_refusals a_outing a_outing_numbers a_outing_beside a_outing_been a_now a_now_ground a_now_ground_signs w_tape w_houseReader w_houseDraft w_floorDraft w_ways w_judge w_search w_then w_now_building w_now_row w_now_habits v_refusals u.1 u.2.1 u.2.2.1 u.2.2.2.1 u.2.2.2.2 v_now_ground_signs v_now_ground_rows v_now_ground_columns v_now_ground_squares v_now_ground_hasDoor v_now_ground_inRow v_now_planked v_imageTaken))) (As := [.ref a_now_ground]) ha hw hl.1 (c_X4_leastMoves (cy := cy)) (cwV 1 ha.2.2.2.2.1 gX10_out_X4_leastMoves rfl rfl rfl hq_X4_leastMoves ⟨Nat.le_of_ble_eq_true rfl, Nat.le_of_ble_eq_true rfl⟩) [2, 3, 4, 5, 7, 8] [0, 1, 6] [0, 1, 3, 4, 5, 6, 2, 7, 8] rfl rfl rfl rfl (by decide) rfl (fun _ => rfl) rfl rfl h rfl rfl (Nat.le_of_ble_eq_true rfl) dX10_out_31 ⟨Nat.le_refl _, Nat.le_refl _⟩ (fun r2 u H locs h hw => ?_)
    obtain ⟨v_outing_numbers_3, v_outing_beside_4, v_outing_been_5, v_outing_squares_6, v_outing_door_7⟩ := u
    have hw : wd D A s.heap (w_X10_out cy a_this a_refusals a_outing a_outing_numbers a_outing_beside a_outing_been a_now a_now_ground a_now_ground_signs w_tape w_houseReader w_houseDraft w_floorDraft w_ways w_judge w_search w_then w_now_building w_now_row w_now_habits v_refusals v_outing_numbers_3 v_outing_beside_4 v_outing_been_5 v_outing_squares_6 v_outing_door_7 v_now_ground_signs v_now_ground_rows v_now_ground_columns v_now_ground_squares v_now_ground_hasDoor v_now_ground_inRow v_now_planked v_imageTaken) H locs := hw
    try dsimp only at h
    exact hr _ _ (v_refusals, v_outing_numbers_3, v_outing_beside_4, v_outing_been_5, v_outing_squares_6, v_outing_door_7) _ _ _ dX10_out_34 h hw
  · have h := h.1 c1
    refine lv_aload_n hx hb dX10_out_13 rfl (lv_at hl 0 rfl) ?_
    refine lv_bipush (v := (-3 : Int32)) hx hb dX10_out_14 (by decide) ?_
    refine g_cvi (rm := { frames := 1, cells := 0, slots := 0, locals := 64 }) (wn := (fun (u : IA) => (w_X10_out cy a_this a_refusals a_outing a_outing_numbers a_outing_beside a_outing_been a_now a_now_ground a_now_ground_signs w_tape w_houseReader w_houseDraft w_floorDraft w_ways w_judge w_search w_then w_now_building w_now_row w_now_habits u v_outing_numbers v_outing_beside v_outing_been v_outing_squares v_outing_door v_now_ground_signs v_now_ground_rows v_now_ground_columns v_now_ground_squares v_now_ground_hasDoor v_now_ground_inRow v_now_planked v_imageTaken))) (As := [.int (-3 : Int32)]) ha hw hl.1 (c_X10_refuse (cy := cy)) (cwV 1 ha.2.2.2.2.1 gX10_out_X10_refuse rfl rfl rfl hq_X10_refuse ⟨Nat.le_of_ble_eq_true rfl, Nat.le_of_ble_eq_true rfl⟩) [0, 1] [2, 3, 4, 5, 6, 7, 8] [7, 8, 0, 1, 2, 3, 4, 5, 6] rfl rfl rfl rfl (by decide) rfl (fun _ => rfl) rfl rfl h rfl rfl (Nat.le_of_ble_eq_true rfl) dX10_out_16 ⟨Nat.le_refl _, Nat.le_refl _⟩ (fun r8 u H locs h hw => ?_)
    obtain ⟨v_refusals_9, rfl⟩ : ∃ z, z = u := ⟨_, rfl⟩
    have hw : wd D A s.heap (w_X10_out cy a_this a_refusals a_outing a_outing_numbers a_outing_beside a_outing_been a_now a_now_ground a_now_ground_signs w_tape w_houseReader w_houseDraft w_floorDraft w_ways w_judge w_search w_then w_now_building w_now_row w_now_habits v_refusals_9 v_outing_numbers v_outing_beside v_outing_been v_outing_squares v_outing_door v_now_ground_signs v_now_ground_rows v_now_ground_columns v_now_ground_squares v_now_ground_hasDoor v_now_ground_inRow v_now_planked v_imageTaken) H locs := hw
    try dsimp only at h
    exact hr _ _ (v_refusals_9, v_outing_numbers, v_outing_beside, v_outing_been, v_outing_squares, v_outing_door) _ _ _ dX10_out_19 h hw
