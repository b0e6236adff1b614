theorem hq_X0_become : yX0_become.cls = RX0 ∧ yX0_become.cls ≠ "java/lang/invoke/MethodHandle" ∧ yX0_become.cls ≠ "java/lang/invoke/VarHandle" ∧ (parseMethodDescriptor yX0_become.desc).map (fun d => d.parameters.length) = some 1 := by decide +kernel
def w_X0_become (cy : ClassId) (a_this a_signs a_o1 a_o1_signs : Nat) (v_signs : IA) (v_rows : Int32) (v_columns : Int32) (v_squares : Int32) (v_hasDoor : Int32) (v_inRow : Int32) (v_o1_signs : IA) (v_o1_rows : Int32) (v_o1_columns : Int32) (v_o1_squares : Int32) (v_o1_hasDoor : Int32) (v_o1_inRow : Int32) : va_W := [(a_this, .inr (0, [.ref a_signs, .int v_rows, .int v_columns, .int v_squares, .int v_hasDoor, .int v_inRow])), (a_signs, .inl (cy, 25, .inl v_signs)), (a_o1, .inr (0, [.ref a_o1_signs, .int v_o1_rows, .int v_o1_columns, .int v_o1_squares, .int v_o1_hasDoor, .int v_o1_inRow])), (a_o1_signs, .inl (cy, 25, .inl v_o1_signs))]
theorem hi_X0_become_0 : ∀ w ∈ u_ws RX0 TX0 6, w ∈ wsX0_become := fun _ h => List.mem_cons_of_mem _ (List.mem_append_right _ h)
def wp_X0_become (v_signs : IA) (v_rows : Int32) (v_columns : Int32) (v_squares : Int32) (v_hasDoor : Int32) (v_inRow : Int32) (v_o1_signs : IA) (v_o1_rows : Int32) (v_o1_columns : Int32) (v_o1_squares : Int32) (v_o1_hasDoor : Int32) (v_o1_inRow : Int32) (K : IA → Int32 → Int32 → Int32 → Int32 → Int32 → Prop) : Prop := nz v_o1_hasDoor ∧ (K (va_cpy v_o1_signs v_signs 0 0 25) v_o1_rows v_o1_columns v_o1_squares v_o1_hasDoor v_o1_inRow)
set_option maxHeartbeats 4000000 in
set_option maxRecDepth 100000 in
theorem c_X0_become {l : Launch} {D : va_G} {cy : ClassId} {a_this a_signs a_o1 a_o1_signs : Nat} {v_signs : IA} {v_rows : Int32} {v_columns : Int32} {v_squares : Int32} {v_hasDoor : Int32} {v_inRow : Int32} {v_o1_signs : IA} {v_o1_rows : Int32} {v_o1_columns : Int32} {v_o1_squares : Int32} {v_o1_hasDoor : Int32} {v_o1_inRow : Int32} {K : IA → Int32 → Int32 → Int32 → Int32 → Int32 → Prop} : CtV l yX0_become wsX0_become { frames := 1, cells := 0, slots := 0, locals := 64 } 0 0 D cy [.ref a_this, .ref a_o1] (w_X0_become cy a_this a_signs a_o1 a_o1_signs v_signs v_rows v_columns v_squares v_hasDoor v_inRow v_o1_signs v_o1_rows v_o1_columns v_o1_squares v_o1_hasDoor v_o1_inRow) (wp_X0_become v_signs v_rows v_columns v_squares v_hasDoor v_inRow v_o1_signs v_o1_rows v_o1_columns v_o1_squares v_o1_hasDoor v_o1_inRow K) (fun (u : IA × Int32 × Int32 × Int32 × Int32 × Int32) => (w_X0_become cy a_this a_signs a_o1 a_o1_signs u.1 u.2.1 u.2.2.1 u.2.2.2.1 u.2.2.2.2.1 u.2.2.2.2.2 v_o1_signs v_o1_rows v_o1_columns v_o1_squares v_o1_hasDoor v_o1_inRow)) (fun (u : IA × Int32 × Int32 × Int32 × Int32 × Int32) => K u.1 u.2.1 u.2.2.1 u.2.2.2.1 u.2.2.2.2.1 u.2.2.2.2.2) := by
  refine CtV.mk (cc := cX0_become) (nL := 2) (by decide) rfl (Nat.le_of_ble_eq_true rfl) ?_
  intro p e s m args below meth c A Q ha hr _ h ls hl hw
  have ha : am p s m args c cX0_become 2 RX0 wsX0_become D cy A := ha
  have hx := ha.1
  have hb := ha.2.1
  have hl : lv_has ls 2 [(0, .ref a_this), (1, .ref a_o1)] := hl
  have h : nz v_o1_hasDoor ∧ (K (va_cpy v_o1_signs v_signs 0 0 25) v_o1_rows v_o1_columns v_o1_squares v_o1_hasDoor v_o1_inRow) := h
  refine lv_aload_n hx hb dX0_become_0 rfl (lv_at hl 1 rfl) ?_
  refine g_get (ci := 0) ha hw 2 0 rfl hi_X0_become_0 (by decide) (List.mem_of_getElem? (i := 1) rfl) rfl rfl dX0_become_1 ?_
  refine lv_iconst (v := (0 : Int32)) hx hb dX0_become_4 (by decide) ?_
  refine lv_aload_n hx hb dX0_become_5 rfl (lv_at hl 0 rfl) ?_
  refine g_get (ci := 0) ha hw 0 0 rfl hi_X0_become_0 (by decide) (List.mem_of_getElem? (i := 1) rfl) rfl rfl dX0_become_6 ?_
  refine lv_iconst (v := (0 : Int32)) hx hb dX0_become_9 (by decide) ?_
  refine lv_aload_n hx hb dX0_become_10 rfl (lv_at hl 0 rfl) ?_
  refine g_get (ci := 0) ha hw 0 0 rfl hi_X0_become_0 (by decide) (List.mem_of_getElem? (i := 1) rfl) rfl rfl dX0_become_11 ?_
  refine g_alen (v := (25 : Int32)) ha hw 1 rfl (by decide) dX0_become_14 ?_
  refine g_cpy (SP := 0) (DP := 0) (N := 25) (wn := (w_X0_become cy a_this a_signs a_o1 a_o1_signs (va_cpy v_o1_signs v_signs 0 0 25) v_rows v_columns v_squares v_hasDoor v_inRow v_o1_signs v_o1_rows v_o1_columns v_o1_squares v_o1_hasDoor v_o1_inRow)) ha hw hl.1 3 1 (List.mem_of_getElem? (i := 2) rfl) (List.mem_of_getElem? (i := 3) rfl) (List.mem_of_getElem? (i := 4) rfl) (List.mem_of_getElem? (i := 5) rfl) rfl rfl (by decide) (by decide) (by decide) (by decide) (by decide) (by decide) (by decide) (by decide) (Nat.le_of_ble_eq_true rfl) (Nat.le_of_ble_eq_true rfl) rfl dX0_become_15 (fun H locs hw => ?_)
  refine lv_aload_n hx hb dX0_become_18 rfl (lv_at hl 0 rfl) ?_
  refine lv_aload_n hx hb dX0_become_19 rfl (lv_at hl 1 rfl) ?_
  refine g_get (ci := 0) ha hw 2 1 rfl hi_X0_become_0 (by decide) (List.mem_of_getElem? (i := 6) rfl) rfl rfl dX0_become_20 ?_
  refine g_put (ci := 0) (wn := (w_X0_become cy a_this a_signs a_o1 a_o1_signs (va_cpy v_o1_signs v_signs 0 0 25) v_o1_rows v_columns v_squares v_hasDoor v_inRow v_o1_signs v_o1_rows v_o1_columns v_o1_squares v_o1_hasDoor v_o1_inRow)) ha hw 0 1 rfl hi_X0_become_0 tyX0_ok nmX0 (by decide) (List.mem_of_getElem? (i := 6) rfl) rfl rfl rfl rfl (Nat.le_of_ble_eq_true rfl) rfl dX0_become_23 (fun H locs hw => ?_)
  refine lv_aload_n hx hb dX0_become_26 rfl (lv_at hl 0 rfl) ?_
  refine lv_aload_n hx hb dX0_become_27 rfl (lv_at hl 1 rfl) ?_
  refine g_get (ci := 0) ha hw 2 2 rfl hi_X0_become_0 (by decide) (List.mem_of_getElem? (i := 7) rfl) rfl rfl dX0_become_28 ?_
  refine g_put (ci := 0) (wn := (w_X0_become cy a_this a_signs a_o1 a_o1_signs (va_cpy v_o1_signs v_signs 0 0 25) v_o1_rows v_o1_columns v_squares v_hasDoor v_inRow v_o1_signs v_o1_rows v_o1_columns v_o1_squares v_o1_hasDoor v_o1_inRow)) ha hw 0 2 rfl hi_X0_become_0 tyX0_ok nmX0 (by decide) (List.mem_of_getElem? (i := 7) rfl) rfl rfl rfl rfl (Nat.le_of_ble_eq_true rfl) rfl dX0_become_31 (fun H locs hw => ?_)
  refine lv_aload_n hx hb dX0_become_34 rfl (lv_at hl 0 rfl) ?_
  refine lv_aload_n hx hb dX0_become_35 rfl (lv_at hl 1 rfl) ?_
  refine g_get (ci := 0) ha hw 2 3 rfl hi_X0_become_0 (by decide) (List.mem_of_getElem? (i := 8) rfl) rfl rfl dX0_become_36 ?_
  refine g_put (ci := 0) (wn := (w_X0_become cy a_this a_signs a_o1 a_o1_signs (va_cpy v_o1_signs v_signs 0 0 25) v_o1_rows v_o1_columns v_o1_squares v_hasDoor v_inRow v_o1_signs v_o1_rows v_o1_columns v_o1_squares v_o1_hasDoor v_o1_inRow)) ha hw 0 3 rfl hi_X0_become_0 tyX0_ok nmX0 (by decide) (List.mem_of_getElem? (i := 8) rfl) rfl rfl rfl rfl (Nat.le_of_ble_eq_true rfl) rfl dX0_become_39 (fun H locs hw => ?_)
  refine lv_aload_n hx hb dX0_become_42 rfl (lv_at hl 0 rfl) ?_
  refine lv_aload_n hx hb dX0_become_43 rfl (lv_at hl 1 rfl) ?_
  refine g_get (ci := 0) ha hw 2 4 rfl hi_X0_become_0 (by decide) (List.mem_of_getElem? (i := 9) rfl) rfl rfl dX0_become_44 ?_
  obtain ⟨z1, h⟩ := h
  refine g_put (ci := 0) (wn := (w_X0_become cy a_this a_signs a_o1 a_o1_signs (va_cpy v_o1_signs v_signs 0 0 25) v_o1_rows v_o1_columns v_o1_squares v_o1_hasDoor v_inRow v_o1_signs v_o1_rows v_o1_columns v_o1_squares v_o1_hasDoor v_o1_inRow)) ha hw 0 4 rfl hi_X0_become_0 tyX0_ok nmX0 (by decide) (List.mem_of_getElem? (i := 9) rfl) rfl z1.nar z1.fit rfl (Nat.le_of_ble_eq_true rfl) rfl dX0_become_47 (fun H locs hw => ?_)
  refine lv_aload_n hx hb dX0_become_50 rfl (lv_at hl 0 rfl) ?_
  refine lv_aload_n hx hb dX0_become_51 rfl (lv_at hl 1 rfl) ?_
  refine g_get (ci := 0) ha hw 2 5 rfl hi_X0_become_0 (by decide) (List.mem_of_getElem? (i := 10) rfl) rfl rfl dX0_become_52 ?_
  refine g_put (ci := 0) (wn := (w_X0_become cy a_this a_signs a_o1 a_o1_signs (va_cpy v_o1_signs v_signs 0 0 25) v_o1_rows v_o1_columns v_o1_squares v_o1_hasDoor v_o1_inRow v_o1_signs v_o1_rows v_o1_columns v_o1_squares v_o1_hasDoor v_o1_inRow)) ha hw 0 5 rfl hi_X0_become_0 tyX0_ok nmX0 (by decide) (List.mem_of_getElem? (i := 10) rfl) rfl rfl rfl rfl (Nat.le_of_ble_eq_true rfl) rfl dX0_become_55 (fun H locs hw => ?_)
  exact hr _ (va_cpy v_o1_signs v_signs 0 0 25, v_o1_rows, v_o1_columns, v_o1_squares, v_o1_hasDoor, v_o1_inRow) _ _ _ dX0_become_58 h hw
theorem hq_X0_sign : yX0_sign.cls = RX0 ∧ yX0_sign.cls ≠ "java/lang/invoke/MethodHandle" ∧ yX0_sign.cls ≠ "java/lang/invoke/VarHandle" ∧ (parseMethodDescriptor yX0_sign.desc).map (fun d => d.parameters.length) = some 2 := by decide +kernel
def w_X0_sign (cy : ClassId) (a_this a_signs : Nat) (v_signs : IA) (v_rows : Int32) (v_columns : Int32) (v_squares : Int32) (v_hasDoor : Int32) (v_inRow : Int32) : va_W := [(a_this, .inr (0, [.ref a_signs, .int v_rows, .int v_columns, .int v_squares, .int v_hasDoor, .int v_inRow])), (a_signs, .inl (cy, 25, .inl v_signs))]
theorem hi_X0_sign_0 : ∀ w ∈ u_ws RX0 TX0 6, w ∈ wsX0_sign := fun _ h => List.mem_cons_of_mem _ (List.mem_append_right _ h)
def wp_X0_sign_29 (x1 : Int32) (x2 : Int32) (v_signs : IA) (K : Int32 → Prop) (t0 : Int32) : Prop := (t0 = 0 → K (0 : Int32)) ∧ (¬ (t0 = 0) → vp_in ((x1 * (5 : Int32)) + x2) 25 ∧ (K (v_signs ((x1 * (5 : Int32)) + x2).toNatClampNeg)))
set_option maxHeartbeats 4000000 in
set_option maxRecDepth 100000 in
theorem pl_X0_sign_29 {p : Program} {l : Launch} {e : Env} {s : State} {m : MethodId} {args : Array Value} {below : List Frame} {meth : Method} {c : Code} {A : Nat → Prop} {Q : State → Prop} {D : va_G} {cy : ClassId} {a_this a_signs : Nat} {v_signs : IA} {v_rows : Int32} {v_columns : Int32} {v_squares : Int32} {v_hasDoor : Int32} {v_inRow : Int32} {x1 : Int32} {x2 : Int32} {K : Int32 → Prop} (ha : am p s m args c cX0_sign 4 RX0 wsX0_sign D cy A) (hr : rtI p l e { frames := 1, cells := 0, slots := 0, locals := 64 } s m args below meth c 0 0 Q cX0_sign D A (fun (u : Unit) => (w_X0_sign cy a_this a_signs v_signs v_rows v_columns v_squares v_hasDoor v_inRow)) (fun (r : Int32) (u : Unit) => K r)) {t0 : Int32} {H : Heap} {locs : List Loc} {ls : Array Slot} : wp_X0_sign_29 x1 x2 v_signs K t0 → wd D A s.heap (w_X0_sign cy a_this a_signs v_signs v_rows v_columns v_squares v_hasDoor v_inRow) H locs → lv_has ls 4 [(0, .ref a_this), (1, .int x1), (2, .int x2)] → W p l e { frames := 1, cells := 0, slots := 0, locals := 64 } s m args below meth c H locs 0 0 Q (F0 m 29 ls [.int t0]) := by
  have hx := ha.1
  have hb := ha.2.1
  intro h hw hl
  have h : (t0 = 0 → K (0 : Int32)) ∧ (¬ (t0 = 0) → vp_in ((x1 * (5 : Int32)) + x2) 25 ∧ (K (v_signs ((x1 * (5 : Int32)) + x2).toNatClampNeg))) := h
  refine lv_istore_n (lv' := [(3, .int t0), (0, .ref a_this), (1, .int x1), (2, .int x2)]) hx hb dX0_sign_29 rfl hl (by decide) rfl (fun ls hl => ?_)
  refine lv_iload_n hx hb dX0_sign_30 rfl (lv_at hl 0 rfl) ?_
  refine lv_if_eq (tgt := 47) hx hb dX0_sign_31 (by decide) (fun c2 => ?_) (fun c2 => ?_)
  · have h := h.1 c2
    refine lv_iconst (v := (0 : Int32)) hx hb dX0_sign_47 (by decide) ?_
    exact hr _ _ () _ _ _ dX0_sign_48 h hw
  · have h := h.2 c2
    refine lv_aload_n hx hb dX0_sign_34 rfl (lv_at hl 1 rfl) ?_
    refine g_get (ci := 0) ha hw 0 0 rfl hi_X0_sign_0 (by decide) (List.mem_of_getElem? (i := 3) rfl) rfl rfl dX0_sign_35 ?_
    refine lv_iload_n hx hb dX0_sign_38 rfl (lv_at hl 2 rfl) ?_
    refine lv_iconst (v := (5 : Int32)) hx hb dX0_sign_39 (by decide) ?_
    refine lv_imul hx hb dX0_sign_40 ?_
    refine lv_iload_n hx hb dX0_sign_41 rfl (lv_at hl 3 rfl) ?_
    refine lv_iadd hx hb dX0_sign_42 ?_
    obtain ⟨z3, h⟩ := h
    refine g_ald ha hw 1 rfl z3 dX0_sign_43 ?_
    refine lv_goto (tgt := 48) hx hb dX0_sign_44 (by decide) ?_
    exact hr _ _ () _ _ _ dX0_sign_48 h hw
def wp_X0_sign (x1 : Int32) (x2 : Int32) (v_signs : IA) (v_rows : Int32) (v_columns : Int32) (K : Int32 → Prop) : Prop := (x1 < 0 → wp_X0_sign_29 x1 x2 v_signs K (0 : Int32)) ∧ (¬ (x1 < 0) → (v_rows ≤ x1 → wp_X0_sign_29 x1 x2 v_signs K (0 : Int32)) ∧ (¬ (v_rows ≤ x1) → (x2 < 0 → wp_X0_sign_29 x1 x2 v_signs K (0 : Int32)) ∧ (¬ (x2 < 0) → (v_columns ≤ x2 → wp_X0_sign_29 x1 x2 v_signs K (0 : Int32)) ∧ (¬ (v_columns ≤ x2) → wp_X0_sign_29 x1 x2 v_signs K (1 : Int32)))))
set_option maxHeartbeats 4000000 in
set_option maxRecDepth 100000 in
theorem c_X0_sign {l : Launch} {D : va_G} {cy : ClassId} {a_this a_signs : Nat} {v_signs : IA} {v_rows : Int32} {v_columns : Int32} {v_squares : Int32} {v_hasDoor : Int32} {v_inRow : Int32} {x1 : Int32} {x2 : Int32} {K : Int32 → Prop} : CtI l yX0_sign wsX0_sign { frames := 1, cells := 0, slots := 0, locals := 64 } 0 0 D cy [.ref a_this, .int x1, .int x2] (w_X0_sign cy a_this a_signs v_signs v_rows v_columns v_squares v_hasDoor v_inRow) (wp_X0_sign x1 x2 v_signs v_rows v_columns K) (fun (u : Unit) => (w_X0_sign cy a_this a_signs v_signs v_rows v_columns v_squares v_hasDoor v_inRow)) (fun (r : Int32) (u : Unit) => K r) := by
  refine CtI.mk (cc := cX0_sign) (nL := 4) (ty := .int) (by decide) rfl (Nat.le_of_ble_eq_true rfl) (fun r u h => rfl) ?_
  intro p e s m args below meth c A Q ha hr _ h ls hl hw
  have ha : am p s m args c cX0_sign 4 RX0 wsX0_sign D cy A := ha
  have hx := ha.1
  have hb := ha.2.1
  have hl : lv_has ls 4 [(0, .ref a_this), (1, .int x1), (2, .int x2)] := hl
  have h : (x1 < 0 → wp_X0_sign_29 x1 x2 v_signs K (0 : Int32)) ∧ (¬ (x1 < 0) → (v_rows ≤ x1 → wp_X0_sign_29 x1 x2 v_signs K (0 : Int32)) ∧ (¬ (v_rows ≤ x1) → (x2 < 0 → wp_X0_sign_29 x1 x2 v_signs K (0 : Int32)) ∧ (¬ (x2 < 0) → (v_columns ≤ x2 → wp_X0_sign_29 x1 x2 v_signs K (0 : Int32)) ∧ (¬ (v_columns ≤ x2) → wp_X0_sign_29 x1 x2 v_signs K (1 : Int32))))) := h
  refine lv_iload_n hx hb dX0_sign_0 rfl (lv_at hl 1 rfl) ?_
  refine lv_if_lt (tgt := 28) hx hb dX0_sign_1 (by decide) (fun c1 => ?_) (fun c1 => ?_)
  · have h := h.1 c1
    refine lv_iconst (v := (0 : Int32)) hx hb dX0_sign_28 (by decide) ?_
    refine pl_X0_sign_29 ha hr h hw (lv_sub hl [0, 1, 2] rfl)
  · have h := h.2 c1
    refine lv_iload_n hx hb dX0_sign_4 rfl (lv_at hl 1 rfl) ?_
    refine lv_aload_n hx hb dX0_sign_5 rfl (lv_at hl 0 rfl) ?_
    refine g_get (ci := 0) ha hw 0 1 rfl hi_X0_sign_0 (by decide) (List.mem_of_getElem? (i := 1) rfl) rfl rfl dX0_sign_6 ?_
    refine lv_icmp_ge (tgt := 28) hx hb dX0_sign_9 (by decide) (fun c4 => ?_) (fun c4 => ?_)
    · have h := h.1 c4
      refine lv_iconst (v := (0 : Int32)) hx hb dX0_sign_28 (by decide) ?_
      refine pl_X0_sign_29 ha hr h hw (lv_sub hl [0, 1, 2] rfl)
    · have h := h.2 c4
      refine lv_iload_n hx hb dX0_sign_12 rfl (lv_at hl 2 rfl) ?_
      refine lv_if_lt (tgt := 28) hx hb dX0_sign_13 (by decide) (fun c5 => ?_) (fun c5 => ?_)
      · have h := h.1 c5
        refine lv_iconst (v := (0 : Int32)) hx hb dX0_sign_28 (by decide) ?_
        refine pl_X0_sign_29 ha hr h hw (lv_sub hl [0, 1, 2] rfl)
      · have h := h.2 c5
        refine lv_iload_n hx hb dX0_sign_16 rfl (lv_at hl 2 rfl) ?_
        refine lv_aload_n hx hb dX0_sign_17 rfl (lv_at hl 0 rfl) ?_
        refine g_get (ci := 0) ha hw 0 2 rfl hi_X0_sign_0 (by decide) (List.mem_of_getElem? (i := 2) rfl) rfl rfl dX0_sign_18 ?_
        refine lv_icmp_ge (tgt := 28) hx hb dX0_sign_21 (by decide) (fun c6 => ?_) (fun c6 => ?_)
        · have h := h.1 c6
          refine lv_iconst (v := (0 : Int32)) hx hb dX0_sign_28 (by decide) ?_
          refine pl_X0_sign_29 ha hr h hw (lv_sub hl [0, 1, 2] rfl)
        · have h := h.2 c6
          refine lv_iconst (v := (1 : Int32)) hx hb dX0_sign_24 (by decide) ?_
          refine lv_goto (tgt := 29) hx hb dX0_sign_25 (by decide) ?_
          refine pl_X0_sign_29 ha hr h hw (lv_sub hl [0, 1, 2] rfl)
theorem hq_X0_put : yX0_put.cls = RX0 ∧ yX0_put.cls ≠ "java/lang/invoke/MethodHandle" ∧ yX0_put.cls ≠ "java/lang/invoke/VarHandle" ∧ (parseMethodDescriptor yX0_put.desc).map (fun d => d.parameters.length) = some 1 := by decide +kernel
def w_X0_put (cy : ClassId) (a_this a_signs : Nat) (v_signs : IA) (v_rows : Int32) (v_columns : Int32) (v_squares : Int32) (v_hasDoor : Int32) (v_inRow : Int32) : va_W := [(a_this, .inr (0, [.ref a_signs, .int v_rows, .int v_columns, .int v_squares, .int v_hasDoor, .int v_inRow])), (a_signs, .inl (cy, 25, .inl v_signs))]
theorem hi_X0_put_0 : ∀ w ∈ u_ws RX0 TX0 6, w ∈ wsX0_put := fun _ h => List.mem_cons_of_mem _ (List.mem_append_right _ h)
def wp_X0_put_151 (v_signs : IA) (v_squares : Int32) (K : Int32 → IA → Int32 → Int32 → Int32 → Int32 → Prop) (v_columns : Int32) (v_hasDoor : Int32) (v_inRow : Int32) (t0 : Int32) : Prop := nz t0 ∧ (∀ y12 : Int32, y12 = (if v_columns < (v_inRow + (1 : Int32)) then (v_inRow + (1 : Int32)) else v_columns) → K (1 : Int32) v_signs y12 v_squares t0 (v_inRow + (1 : Int32)))
set_option maxHeartbeats 4000000 in
set_option maxRecDepth 100000 in
theorem pl_X0_put_151 {p : Program} {l : Launch} {e : Env} {s : State} {m : MethodId} {args : Array Value} {below : List Frame} {meth : Method} {c : Code} {A : Nat → Prop} {Q : State → Prop} {D : va_G} {cy : ClassId} {a_this a_signs : Nat} {v_signs : IA} {v_rows : Int32} {v_squares : Int32} {K : Int32 → IA → Int32 → Int32 → Int32 → Int32 → Prop} (ha : am p s m args c cX0_put 2 RX0 wsX0_put D cy A) (hr : rtI p l e { frames := 1, cells := 0, slots := 0, locals := 64 } s m args below meth c 0 0 Q cX0_put D A (fun (u : IA × Int32 × Int32 × Int32 × Int32) => (w_X0_put cy a_this a_signs u.1 v_rows u.2.1 u.2.2.1 u.2.2.2.1 u.2.2.2.2)) (fun (r : Int32) (u : IA × Int32 × Int32 × Int32 × Int32) => nz r ∧ K r u.1 u.2.1 u.2.2.1 u.2.2.2.1 u.2.2.2.2)) {v_columns : Int32} {v_hasDoor : Int32} {v_inRow : Int32} {t0 : Int32} {H : Heap} {locs : List Loc} {ls : Array Slot} : wp_X0_put_151 v_signs v_squares K v_columns v_hasDoor v_inRow t0 → wd D A s.heap (w_X0_put cy a_this a_signs v_signs v_rows v_columns v_squares v_hasDoor v_inRow) H locs → lv_has ls 2 [(0, .ref a_this)] → W p l e { frames := 1, cells := 0, slots := 0, locals := 64 } s m args below meth c H locs 0 0 Q (F0 m 151 ls [.int t0, .ref a_this]) := by
  have hx := ha.1
  have hb := ha.2.1
  intro h hw hl
  have h : nz t0 ∧ (∀ y12 : Int32, y12 = (if v_columns < (v_inRow + (1 : Int32)) then (v_inRow + (1 : Int32)) else v_columns) → K (1 : Int32) v_signs y12 v_squares t0 (v_inRow + (1 : Int32))) := h
  obtain ⟨z11, h⟩ := h
  refine g_put (ci := 0) (wn := (w_X0_put cy a_this a_signs v_signs v_rows v_columns v_squares t0 v_inRow)) ha hw 0 4 rfl hi_X0_put_0 tyX0_ok nmX0 (by decide) (List.mem_of_getElem? (i := 5) rfl) rfl z11.nar z11.fit rfl (Nat.le_of_ble_eq_true rfl) rfl dX0_put_151 (fun H locs hw => ?_)
  refine lv_aload_n hx hb dX0_put_154 rfl (lv_at hl 0 rfl) ?_
  refine lv_dup hx hb dX0_put_155 rfl ?_
  refine g_get (ci := 0) ha hw 0 5 rfl hi_X0_put_0 (by decide) (List.mem_of_getElem? (i := 1) rfl) rfl rfl dX0_put_156 ?_
  refine lv_iconst (v := (1 : Int32)) hx hb dX0_put_159 (by decide) ?_
  refine lv_iadd hx hb dX0_put_160 ?_
  refine g_put (ci := 0) (wn := (w_X0_put cy a_this a_signs v_signs v_rows v_columns v_squares t0 (v_inRow + (1 : Int32)))) ha hw 0 5 rfl hi_X0_put_0 tyX0_ok nmX0 (by decide) (List.mem_of_getElem? (i := 1) rfl) rfl rfl rfl rfl (Nat.le_of_ble_eq_true rfl) rfl dX0_put_161 (fun H locs hw => ?_)
  refine lv_aload_n hx hb dX0_put_164 rfl (lv_at hl 0 rfl) ?_
  refine lv_aload_n hx hb dX0_put_165 rfl (lv_at hl 0 rfl) ?_
  refine g_get (ci := 0) ha hw 0 2 rfl hi_X0_put_0 (by decide) (List.mem_of_getElem? (i := 3) rfl) rfl rfl dX0_put_166 ?_
  refine lv_aload_n hx hb dX0_put_169 rfl (lv_at hl 0 rfl) ?_
  refine g_get (ci := 0) ha hw 0 5 rfl hi_X0_put_0 (by decide) (List.mem_of_getElem? (i := 1) rfl) rfl rfl dX0_put_170 ?_
  refine va_mmax hx hb (ha.2.2.1.trans hl.1.symm) ha.2.2.2.1 (ha.2.2.2.2.1 _ (List.mem_of_getElem? (i := 7) rfl)) (ha.2.2.2.2.1 _ (List.mem_of_getElem? (i := 8) rfl)) (ha.2.2.2.2.1 _ (List.mem_of_getElem? (i := 9) rfl)) (ha.2.2.2.2.1 _ (List.mem_of_getElem? (i := 10) rfl)) (Nat.le_of_ble_eq_true rfl) (Nat.le_of_ble_eq_true rfl) (Nat.zero_le _) (Nat.zero_le _) dX0_put_173 ?_
  refine lv_topi (fun y12 ey12 => ?_)
  have h := h y12 ey12
  refine g_put (ci := 0) (wn := (w_X0_put cy a_this a_signs v_signs v_rows y12 v_squares t0 (v_inRow + (1 : Int32)))) ha hw 0 2 rfl hi_X0_put_0 tyX0_ok nmX0 (by decide) (List.mem_of_getElem? (i := 3) rfl) rfl rfl rfl rfl (Nat.le_of_ble_eq_true rfl) rfl dX0_put_176 (fun H locs hw => ?_)
  refine lv_iconst (v := (1 : Int32)) hx hb dX0_put_179 (by decide) ?_
  exact hr _ _ (v_signs, y12, v_squares, t0, v_inRow + (1 : Int32)) _ _ _ dX0_put_180 ⟨nz1, h⟩ hw
def wp_X0_put_128 (x1 : Int32) (v_signs : IA) (K : Int32 → IA → Int32 → Int32 → Int32 → Int32 → Prop) (v_columns : Int32) (v_squares : Int32) (v_hasDoor : Int32) (v_inRow : Int32) (t0 : Int32) (t1 : Int32) : Prop := (v_hasDoor = 0 → (x1 = (100 : Int32) → wp_X0_put_151 v_signs (t1 + t0) K v_columns v_hasDoor v_inRow (1 : Int32)) ∧ (¬ (x1 = (100 : Int32)) → wp_X0_put_151 v_signs (t1 + t0) K v_columns v_hasDoor v_inRow (0 : Int32))) ∧ (¬ (v_hasDoor = 0) → wp_X0_put_151 v_signs (t1 + t0) K v_columns v_hasDoor v_inRow (1 : Int32))
set_option maxHeartbeats 4000000 in
set_option maxRecDepth 100000 in
theorem pl_X0_put_128 {p : Program} {l : Launch} {e : Env} {s : State} {m : MethodId} {args : Array Value} {below : List Frame} {meth : Method} {c : Code} {A : Nat → Prop} {Q : State → Prop} {D : va_G} {cy : ClassId} {a_this a_signs : Nat} {v_signs : IA} {v_rows : Int32} {x1 : Int32} {K : Int32 → IA → Int32 → Int32 → Int32 → Int32 → Prop} (ha : am p s m args c cX0_put 2 RX0 wsX0_put D cy A) (hr : rtI p l e { frames := 1, cells := 0, slots := 0, locals := 64 } s m args below meth c 0 0 Q cX0_put D A (fun (u : IA × Int32 × Int32 × Int32 × Int32) => (w_X0_put cy a_this a_signs u.1 v_rows u.2.1 u.2.2.1 u.2.2.2.1 u.2.2.2.2)) (fun (r : Int32) (u : IA × Int32 × Int32 × Int32 × Int32) => nz r ∧ K r u.1 u.2.1 u.2.2.1 u.2.2.2.1 u.2.2.2.2)) {v_columns : Int32} {v_squares : Int32} {v_hasDoor : Int32} {v_inRow : Int32} {t0 : Int32} {t1 : Int32} {H : Heap} {locs : List Loc} {ls : Array Slot} : wp_X0_put_128 x1 v_signs K v_columns v_squares v_hasDoor v_inRow t0 t1 → wd D A s.heap (w_X0_put cy a_this a_signs v_signs v_rows v_columns v_squares v_hasDoor v_inRow) H locs → lv_has ls 2 [(0, .ref a_this), (1, .int x1)] → W p l e { frames := 1, cells := 0, slots := 0, locals := 64 } s m args below meth c H locs 0 0 Q (F0 m 128 ls [.int t0, .int t1, .ref a_this]) := by
  have hx := ha.1
  have hb := ha.2.1
  intro h hw hl
  have h : (v_hasDoor = 0 → (x1 = (100 : Int32) → wp_X0_put_151 v_signs (t1 + t0) K v_columns v_hasDoor v_inRow (1 : Int32)) ∧ (¬ (x1 = (100 : Int32)) → wp_X0_put_151 v_signs (t1 + t0) K v_columns v_hasDoor v_inRow (0 : Int32))) ∧ (¬ (v_hasDoor = 0) → wp_X0_put_151 v_signs (t1 + t0) K v_columns v_hasDoor v_inRow (1 : Int32)) := h
  refine lv_iadd hx hb dX0_put_128 ?_
  refine g_put (ci := 0) (wn := (w_X0_put cy a_this a_signs v_signs v_rows v_columns (t1 + t0) v_hasDoor v_inRow)) ha hw 0 3 rfl hi_X0_put_0 tyX0_ok nmX0 (by decide) (List.mem_of_getElem? (i := 4) rfl) rfl rfl rfl rfl (Nat.le_of_ble_eq_true rfl) rfl dX0_put_129 (fun H locs hw => ?_)
  refine lv_aload_n hx hb dX0_put_132 rfl (lv_at hl 0 rfl) ?_
  refine lv_aload_n hx hb dX0_put_133 rfl (lv_at hl 0 rfl) ?_
  refine g_get (ci := 0) ha hw 0 4 rfl hi_X0_put_0 (by decide) (List.mem_of_getElem? (i := 5) rfl) rfl rfl dX0_put_134 ?_
  refine lv_if_ne (tgt := 146) hx hb dX0_put_137 (by decide) (fun c10 => ?_) (fun c10 => ?_)
  · have h := h.2 c10
    refine lv_iconst (v := (1 : Int32)) hx hb dX0_put_146 (by decide) ?_
    refine lv_goto (tgt := 151) hx hb dX0_put_147 (by decide) ?_
    refine pl_X0_put_151 ha hr h hw (lv_sub hl [0] rfl)
  · have h := h.1 c10
    refine lv_iload_n hx hb dX0_put_140 rfl (lv_at hl 1 rfl) ?_
    refine lv_bipush (v := (100 : Int32)) hx hb dX0_put_141 (by decide) ?_
    refine lv_icmp_ne (tgt := 150) hx hb dX0_put_143 (by decide) (fun c13 => ?_) (fun c13 => ?_)
    · have h := h.2 c13
      refine lv_iconst (v := (0 : Int32)) hx hb dX0_put_150 (by decide) ?_
      refine pl_X0_put_151 ha hr h hw (lv_sub hl [0] rfl)
    · have h := h.1 c13
      refine lv_iconst (v := (1 : Int32)) hx hb dX0_put_146 (by decide) ?_
      refine lv_goto (tgt := 151) hx hb dX0_put_147 (by decide) ?_
      refine pl_X0_put_151 ha hr h hw (lv_sub hl [0] rfl)
def wp_X0_put_111 (x1 : Int32) (K : Int32 → IA → Int32 → Int32 → Int32 → Int32 → Prop) (v_signs : IA) (v_columns : Int32) (v_squares : Int32) (v_hasDoor : Int32) (v_inRow : Int32) (t0 : Int32) (t1 : Int32) : Prop := vp_in t1 25 ∧ ((x1 = (35 : Int32) → wp_X0_put_128 x1 (upd v_signs t1.toNatClampNeg t0) K v_columns v_squares v_hasDoor v_inRow (0 : Int32) v_squares) ∧ (¬ (x1 = (35 : Int32)) → wp_X0_put_128 x1 (upd v_signs t1.toNatClampNeg t0) K v_columns v_squares v_hasDoor v_inRow (1 : Int32) v_squares))
set_option maxHeartbeats 4000000 in
set_option maxRecDepth 100000 in
theorem pl_X0_put_111 {p : Program} {l : Launch} {e : Env} {s : State} {m : MethodId} {args : Array Value} {below : List Frame} {meth : Method} {c : Code} {A : Nat → Prop} {Q : State → Prop} {D : va_G} {cy : ClassId} {a_this a_signs : Nat} {v_rows : Int32} {x1 : Int32} {K : Int32 → IA → Int32 → Int32 → Int32 → Int32 → Prop} (ha : am p s m args c cX0_put 2 RX0 wsX0_put D cy A) (hr : rtI p l e { frames := 1, cells := 0, slots := 0, locals := 64 } s m args below meth c 0 0 Q cX0_put D A (fun (u : IA × Int32 × Int32 × Int32 × Int32) => (w_X0_put cy a_this a_signs u.1 v_rows u.2.1 u.2.2.1 u.2.2.2.1 u.2.2.2.2)) (fun (r : Int32) (u : IA × Int32 × Int32 × Int32 × Int32) => nz r ∧ K r u.1 u.2.1 u.2.2.1 u.2.2.2.1 u.2.2.2.2)) {v_signs : IA} {v_columns : Int32} {v_squares : Int32} {v_hasDoor : Int32} {v_inRow : Int32} {t0 : Int32} {t1 : Int32} {H : Heap} {locs : List Loc} {ls : Array Slot} : wp_X0_put_111 x1 K v_signs v_columns v_squares v_hasDoor v_inRow t0 t1 → wd D A s.heap (w_X0_put cy a_this a_signs v_signs v_rows v_columns v_squares v_hasDoor v_inRow) H locs → lv_has ls 2 [(0, .ref a_this), (1, .int x1)] → W p l e { frames := 1, cells := 0, slots := 0, locals := 64 } s m args below meth c H locs 0 0 Q (F0 m 111 ls [.int t0, .int t1, .ref a_signs]) := by
  have hx := ha.1
  have hb := ha.2.1
  intro h hw hl
  have h : vp_in t1 25 ∧ ((x1 = (35 : Int32) → wp_X0_put_128 x1 (upd v_signs t1.toNatClampNeg t0) K v_columns v_squares v_hasDoor v_inRow (0 : Int32) v_squares) ∧ (¬ (x1 = (35 : Int32)) → wp_X0_put_128 x1 (upd v_signs t1.toNatClampNeg t0) K v_columns v_squares v_hasDoor v_inRow (1 : Int32) v_squares)) := h
  obtain ⟨z8, h⟩ := h
  refine g_ast (wn := (w_X0_put cy a_this a_signs (upd v_signs t1.toNatClampNeg t0) v_rows v_columns v_squares v_hasDoor v_inRow)) ha hw 1 rfl z8 rfl dX0_put_111 (fun H locs hw => ?_)
  refine lv_aload_n hx hb dX0_put_112 rfl (lv_at hl 0 rfl) ?_
  refine lv_dup hx hb dX0_put_113 rfl ?_
  refine g_get (ci := 0) ha hw 0 3 rfl hi_X0_put_0 (by decide) (List.mem_of_getElem? (i := 4) rfl) rfl rfl dX0_put_114 ?_
  refine lv_iload_n hx hb dX0_put_117 rfl (lv_at hl 1 rfl) ?_
  refine lv_bipush (v := (35 : Int32)) hx hb dX0_put_118 (by decide) ?_
  refine lv_icmp_ne (tgt := 127) hx hb dX0_put_120 (by decide) (fun c9 => ?_) (fun c9 => ?_)
  · have h := h.2 c9
    refine lv_iconst (v := (1 : Int32)) hx hb dX0_put_127 (by decide) ?_
    refine pl_X0_put_128 ha hr h hw (lv_sub hl [0, 1] rfl)
  · have h := h.1 c9
    refine lv_iconst (v := (0 : Int32)) hx hb dX0_put_123 (by decide) ?_
    refine lv_goto (tgt := 128) hx hb dX0_put_124 (by decide) ?_
    refine pl_X0_put_128 ha hr h hw (lv_sub hl [0, 1] rfl)
def wp_X0_put_73 (x1 : Int32) (v_rows : Int32) (K : Int32 → IA → Int32 → Int32 → Int32 → Int32 → Prop) (v_signs : IA) (v_columns : Int32) (v_squares : Int32) (v_hasDoor : Int32) (v_inRow : Int32) : Prop := (x1 = (35 : Int32) → wp_X0_put_111 x1 K v_signs v_columns v_squares v_hasDoor v_inRow (0 : Int32) (((v_rows - (1 : Int32)) * (5 : Int32)) + v_inRow)) ∧ (¬ (x1 = (35 : Int32)) → (x1 = (46 : Int32) → wp_X0_put_111 x1 K v_signs v_columns v_squares v_hasDoor v_inRow (1 : Int32) (((v_rows - (1 : Int32)) * (5 : Int32)) + v_inRow)) ∧ (¬ (x1 = (46 : Int32)) → wp_X0_put_111 x1 K v_signs v_columns v_squares v_hasDoor v_inRow (2 : Int32) (((v_rows - (1 : Int32)) * (5 : Int32)) + v_inRow)))
set_option maxHeartbeats 4000000 in
set_option maxRecDepth 100000 in
theorem pl_X0_put_73 {p : Program} {l : Launch} {e : Env} {s : State} {m : MethodId} {args : Array Value} {below : List Frame} {meth : Method} {c : Code} {A : Nat → Prop} {Q : State → Prop} {D : va_G} {cy : ClassId} {a_this a_signs : Nat} {v_rows : Int32} {x1 : Int32} {K : Int32 → IA → Int32 → Int32 → Int32 → Int32 → Prop} (ha : am p s m args c cX0_put 2 RX0 wsX0_put D cy A) (hr : rtI p l e { frames := 1, cells := 0, slots := 0, locals := 64 } s m args below meth c 0 0 Q cX0_put D A (fun (u : IA × Int32 × Int32 × Int32 × Int32) => (w_X0_put cy a_this a_signs u.1 v_rows u.2.1 u.2.2.1 u.2.2.2.1 u.2.2.2.2)) (fun (r : Int32) (u : IA × Int32 × Int32 × Int32 × Int32) => nz r ∧ K r u.1 u.2.1 u.2.2.1 u.2.2.2.1 u.2.2.2.2)) {v_signs : IA} {v_columns : Int32} {v_squares : Int32} {v_hasDoor : Int32} {v_inRow : Int32} {H : Heap} {locs : List Loc} {ls : Array Slot} : wp_X0_put_73 x1 v_rows K v_signs v_columns v_squares v_hasDoor v_inRow → wd D A s.heap (w_X0_put cy a_this a_signs v_signs v_rows v_columns v_squares v_hasDoor v_inRow) H locs → lv_has ls 2 [(0, .ref a_this), (1, .int x1)] → W p l e { frames := 1, cells := 0, slots := 0, locals := 64 } s m args below meth c H locs 0 0 Q (F0 m 73 ls []) := by
  have hx := ha.1
  have hb := ha.2.1
  intro h hw hl
  have h : (x1 = (35 : Int32) → wp_X0_put_111 x1 K v_signs v_columns v_squares v_hasDoor v_inRow (0 : Int32) (((v_rows - (1 : Int32)) * (5 : Int32)) + v_inRow)) ∧ (¬ (x1 = (35 : Int32)) → (x1 = (46 : Int32) → wp_X0_put_111 x1 K v_signs v_columns v_squares v_hasDoor v_inRow (1 : Int32) (((v_rows - (1 : Int32)) * (5 : Int32)) + v_inRow)) ∧ (¬ (x1 = (46 : Int32)) → wp_X0_put_111 x1 K v_signs v_columns v_squares v_hasDoor v_inRow (2 : Int32) (((v_rows - (1 : Int32)) * (5 : Int32)) + v_inRow))) := h
  refine lv_aload_n hx hb dX0_put_73 rfl (lv_at hl 0 rfl) ?_
  refine g_get (ci := 0) ha hw 0 0 rfl hi_X0_put_0 (by decide) (List.mem_of_getElem? (i := 6) rfl) rfl rfl dX0_put_74 ?_
  refine lv_aload_n hx hb dX0_put_77 rfl (lv_at hl 0 rfl) ?_
  refine g_get (ci := 0) ha hw 0 1 rfl hi_X0_put_0 (by decide) (List.mem_of_getElem? (i := 2) rfl) rfl rfl dX0_put_78 ?_
  refine lv_iconst (v := (1 : Int32)) hx hb dX0_put_81 (by decide) ?_
  refine lv_isub hx hb dX0_put_82 ?_
  refine lv_iconst (v := (5 : Int32)) hx hb dX0_put_83 (by decide) ?_
  refine lv_imul hx hb dX0_put_84 ?_
  refine lv_aload_n hx hb dX0_put_85 rfl (lv_at hl 0 rfl) ?_
  refine g_get (ci := 0) ha hw 0 5 rfl hi_X0_put_0 (by decide) (List.mem_of_getElem? (i := 1) rfl) rfl rfl dX0_put_86 ?_
  refine lv_iadd hx hb dX0_put_89 ?_
  refine lv_iload_n hx hb dX0_put_90 rfl (lv_at hl 1 rfl) ?_
  refine lv_bipush (v := (35 : Int32)) hx hb dX0_put_91 (by decide) ?_
  refine lv_icmp_ne (tgt := 100) hx hb dX0_put_93 (by decide) (fun c6 => ?_) (fun c6 => ?_)
  · have h := h.2 c6
    refine lv_iload_n hx hb dX0_put_100 rfl (lv_at hl 1 rfl) ?_
    refine lv_bipush (v := (46 : Int32)) hx hb dX0_put_101 (by decide) ?_
    refine lv_icmp_ne (tgt := 110) hx hb dX0_put_103 (by decide) (fun c7 => ?_) (fun c7 => ?_)
    · have h := h.2 c7
      refine lv_iconst (v := (2 : Int32)) hx hb dX0_put_110 (by decide) ?_
      refine pl_X0_put_111 ha hr h hw (lv_sub hl [0, 1] rfl)
    · have h := h.1 c7
      refine lv_iconst (v := (1 : Int32)) hx hb dX0_put_106 (by decide) ?_
      refine lv_goto (tgt := 111) hx hb dX0_put_107 (by decide) ?_
      refine pl_X0_put_111 ha hr h hw (lv_sub hl [0, 1] rfl)
  · have h := h.1 c6
    refine lv_iconst (v := (0 : Int32)) hx hb dX0_put_96 (by decide) ?_
    refine lv_goto (tgt := 111) hx hb dX0_put_97 (by decide) ?_
    refine pl_X0_put_111 ha hr h hw (lv_sub hl [0, 1] rfl)
def wp_X0_put_58 (x1 : Int32) (v_rows : Int32) (K : Int32 → IA → Int32 → Int32 → Int32 → Int32 → Prop) (v_signs : IA) (v_columns : Int32) (v_squares : Int32) (v_hasDoor : Int32) (v_inRow : Int32) : Prop := (x1 = (100 : Int32) → (v_hasDoor = 0 → wp_X0_put_73 x1 v_rows K v_signs v_columns v_squares v_hasDoor v_inRow) ∧ (¬ (v_hasDoor = 0) → K (0 : Int32) v_signs v_columns v_squares v_hasDoor v_inRow)) ∧ (¬ (x1 = (100 : Int32)) → wp_X0_put_73 x1 v_rows K v_signs v_columns v_squares v_hasDoor v_inRow)
set_option maxHeartbeats 4000000 in
set_option maxRecDepth 100000 in
theorem pl_X0_put_58 {p : Program} {l : Launch} {e : Env} {s : State} {m : MethodId} {args : Array Value} {below : List Frame} {meth : Method} {c : Code} {A : Nat → Prop} {Q : State → Prop} {D : va_G} {cy : ClassId} {a_this a_signs : Nat} {v_rows : Int32} {x1 : Int32} {K : Int32 → IA → Int32 → Int32 → Int32 → Int32 → Prop} (ha : am p s m args c cX0_put 2 RX0 wsX0_put D cy A) (hr : rtI p l e { frames := 1, cells := 0, slots := 0, locals := 64 } s m args below meth c 0 0 Q cX0_put D A (fun (u : IA × Int32 × Int32 × Int32 × Int32) => (w_X0_put cy a_this a_signs u.1 v_rows u.2.1 u.2.2.1 u.2.2.2.1 u.2.2.2.2)) (fun (r : Int32) (u : IA × Int32 × Int32 × Int32 × Int32) => nz r ∧ K r u.1 u.2.1 u.2.2.1 u.2.2.2.1 u.2.2.2.2)) {v_signs : IA} {v_columns : Int32} {v_squares : Int32} {v_hasDoor : Int32} {v_inRow : Int32} {H : Heap} {locs : List Loc} {ls : Array Slot} : wp_X0_put_58 x1 v_rows K v_signs v_columns v_squares v_hasDoor v_inRow → wd D A s.heap (w_X0_put cy a_this a_signs v_signs v_rows v_columns v_squares v_hasDoor v_inRow) H locs → lv_has ls 2 [(0, .ref a_this), (1, .int x1)] → W p l e { frames := 1, cells := 0, slots := 0, locals := 64 } s m args below meth c H locs 0 0 Q (F0 m 58 ls []) := by
  have hx := ha.1
  have hb := ha.2.1
  intro h hw hl
  have h : (x1 = (100 : Int32) → (v_hasDoor = 0 → wp_X0_put_73 x1 v_rows K v_signs v_columns v_squares v_hasDoor v_inRow) ∧ (¬ (v_hasDoor = 0) → K (0 : Int32) v_signs v_columns v_squares v_hasDoor v_inRow)) ∧ (¬ (x1 = (100 : Int32)) → wp_X0_put_73 x1 v_rows K v_signs v_columns v_squares v_hasDoor v_inRow) := h
  refine lv_iload_n hx hb dX0_put_58 rfl (lv_at hl 1 rfl) ?_
  refine lv_bipush (v := (100 : Int32)) hx hb dX0_put_59 (by decide) ?_
  refine lv_icmp_ne (tgt := 73) hx hb dX0_put_61 (by decide) (fun c5 => ?_) (fun c5 => ?_)
  · have h := h.2 c5
    refine pl_X0_put_73 ha hr h hw (lv_sub hl [0, 1] rfl)
  · have h := h.1 c5
    refine lv_aload_n hx hb dX0_put_64 rfl (lv_at hl 0 rfl) ?_
    refine g_get (ci := 0) ha hw 0 4 rfl hi_X0_put_0 (by decide) (List.mem_of_getElem? (i := 5) rfl) rfl rfl dX0_put_65 ?_
    refine lv_if_eq (tgt := 73) hx hb dX0_put_68 (by decide) (fun c14 => ?_) (fun c14 => ?_)
    · have h := h.1 c14
      refine pl_X0_put_73 ha hr h hw (lv_sub hl [0, 1] rfl)
    · have h := h.2 c14
      refine lv_iconst (v := (0 : Int32)) hx hb dX0_put_71 (by decide) ?_
      exact hr _ _ (v_signs, v_columns, v_squares, v_hasDoor, v_inRow) _ _ _ dX0_put_72 ⟨nz0, h⟩ hw
def wp_X0_put_38 (x1 : Int32) (v_rows : Int32) (K : Int32 → IA → Int32 → Int32 → Int32 → Int32 → Prop) (v_signs : IA) (v_columns : Int32) (v_squares : Int32) (v_hasDoor : Int32) (v_inRow : Int32) (t0 : Int32) (t1 : Int32) : Prop := (t1 < t0 → (x1 = (35 : Int32) → wp_X0_put_58 x1 v_rows K v_signs v_columns v_squares v_hasDoor v_inRow) ∧ (¬ (x1 = (35 : Int32)) → ((10 : Int32) ≤ v_squares → K (0 : Int32) v_signs v_columns v_squares v_hasDoor v_inRow) ∧ (¬ ((10 : Int32) ≤ v_squares) → wp_X0_put_58 x1 v_rows K v_signs v_columns v_squares v_hasDoor v_inRow))) ∧ (¬ (t1 < t0) → K (0 : Int32) v_signs v_columns v_squares v_hasDoor v_inRow)
set_option maxHeartbeats 4000000 in
set_option maxRecDepth 100000 in
theorem pl_X0_put_38 {p : Program} {l : Launch} {e : Env} {s : State} {m : MethodId} {args : Array Value} {below : List Frame} {meth : Method} {c : Code} {A : Nat → Prop} {Q : State → Prop} {D : va_G} {cy : ClassId} {a_this a_signs : Nat} {v_rows : Int32} {x1 : Int32} {K : Int32 → IA → Int32 → Int32 → Int32 → Int32 → Prop} (ha : am p s m args c cX0_put 2 RX0 wsX0_put D cy A) (hr : rtI p l e { frames := 1, cells := 0, slots := 0, locals := 64 } s m args below meth c 0 0 Q cX0_put D A (fun (u : IA × Int32 × Int32 × Int32 × Int32) => (w_X0_put cy a_this a_signs u.1 v_rows u.2.1 u.2.2.1 u.2.2.2.1 u.2.2.2.2)) (fun (r : Int32) (u : IA × Int32 × Int32 × Int32 × Int32) => nz r ∧ K r u.1 u.2.1 u.2.2.1 u.2.2.2.1 u.2.2.2.2)) {v_signs : IA} {v_columns : Int32} {v_squares : Int32} {v_hasDoor : Int32} {v_inRow : Int32} {t0 : Int32} {t1 : Int32} {H : Heap} {locs : List Loc} {ls : Array Slot} : wp_X0_put_38 x1 v_rows K v_signs v_columns v_squares v_hasDoor v_inRow t0 t1 → wd D A s.heap (w_X0_put cy a_this a_signs v_signs v_rows v_columns v_squares v_hasDoor v_inRow) H locs → lv_has ls 2 [(0, .ref a_this), (1, .int x1)] → W p l e { frames := 1, cells := 0, slots := 0, locals := 64 } s m args below meth c H locs 0 0 Q (F0 m 38 ls [.int t0, .int t1]) := by
  have hx := ha.1
  have hb := ha.2.1
  intro h hw hl
  have h : (t1 < t0 → (x1 = (35 : Int32) → wp_X0_put_58 x1 v_rows K v_signs v_columns v_squares v_hasDoor v_inRow) ∧ (¬ (x1 = (35 : Int32)) → ((10 : Int32) ≤ v_squares → K (0 : Int32) v_signs v_columns v_squares v_hasDoor v_inRow) ∧ (¬ ((10 : Int32) ≤ v_squares) → wp_X0_put_58 x1 v_rows K v_signs v_columns v_squares v_hasDoor v_inRow))) ∧ (¬ (t1 < t0) → K (0 : Int32) v_signs v_columns v_squares v_hasDoor v_inRow) := h
  refine lv_icmp_lt (tgt := 43) hx hb dX0_put_38 (by decide) (fun c3 => ?_) (fun c3 => ?_)
  · have h := h.1 c3
    refine lv_iload_n hx hb dX0_put_43 rfl (lv_at hl 1 rfl) ?_
    refine lv_bipush (v := (35 : Int32)) hx hb dX0_put_44 (by decide) ?_
    refine lv_icmp_eq (tgt := 58) hx hb dX0_put_46 (by decide) (fun c4 => ?_) (fun c4 => ?_)
    · have h := h.1 c4
      refine pl_X0_put_58 ha hr h hw (lv_sub hl [0, 1] rfl)
    · have h := h.2 c4
      refine lv_aload_n hx hb dX0_put_49 rfl (lv_at hl 0 rfl) ?_
      refine g_get (ci := 0) ha hw 0 3 rfl hi_X0_put_0 (by decide) (List.mem_of_getElem? (i := 4) rfl) rfl rfl dX0_put_50 ?_
      refine lv_bipush (v := (10 : Int32)) hx hb dX0_put_53 (by decide) ?_
      refine lv_icmp_ge (tgt := 71) hx hb dX0_put_55 (by decide) (fun c15 => ?_) (fun c15 => ?_)
      · have h := h.1 c15
        refine lv_iconst (v := (0 : Int32)) hx hb dX0_put_71 (by decide) ?_
        exact hr _ _ (v_signs, v_columns, v_squares, v_hasDoor, v_inRow) _ _ _ dX0_put_72 ⟨nz0, h⟩ hw
      · have h := h.2 c15
        refine pl_X0_put_58 ha hr h hw (lv_sub hl [0, 1] rfl)
  · have h := h.2 c3
    refine lv_iconst (v := (0 : Int32)) hx hb dX0_put_41 (by decide) ?_
    exact hr _ _ (v_signs, v_columns, v_squares, v_hasDoor, v_inRow) _ _ _ dX0_put_42 ⟨nz0, h⟩ hw
def wp_X0_put_18 (x1 : Int32) (v_rows : Int32) (K : Int32 → IA → Int32 → Int32 → Int32 → Int32 → Prop) (v_signs : IA) (v_columns : Int32) (v_squares : Int32) (v_hasDoor : Int32) (v_inRow : Int32) : Prop := (v_rows = (1 : Int32) → wp_X0_put_38 x1 v_rows K v_signs v_columns v_squares v_hasDoor v_inRow (5 : Int32) v_inRow) ∧ (¬ (v_rows = (1 : Int32)) → wp_X0_put_38 x1 v_rows K v_signs v_columns v_squares v_hasDoor v_inRow v_columns v_inRow)
set_option maxHeartbeats 4000000 in
set_option maxRecDepth 100000 in
theorem pl_X0_put_18 {p : Program} {l : Launch} {e : Env} {s : State} {m : MethodId} {args : Array Value} {below : List Frame} {meth : Method} {c : Code} {A : Nat → Prop} {Q : State → Prop} {D : va_G} {cy : ClassId} {a_this a_signs : Nat} {v_rows : Int32} {x1 : Int32} {K : Int32 → IA → Int32 → Int32 → Int32 → Int32 → Prop} (ha : am p s m args c cX0_put 2 RX0 wsX0_put D cy A) (hr : rtI p l e { frames := 1, cells := 0, slots := 0, locals := 64 } s m args below meth c 0 0 Q cX0_put D A (fun (u : IA × Int32 × Int32 × Int32 × Int32) => (w_X0_put cy a_this a_signs u.1 v_rows u.2.1 u.2.2.1 u.2.2.2.1 u.2.2.2.2)) (fun (r : Int32) (u : IA × Int32 × Int32 × Int32 × Int32) => nz r ∧ K r u.1 u.2.1 u.2.2.1 u.2.2.2.1 u.2.2.2.2)) {v_signs : IA} {v_columns : Int32} {v_squares : Int32} {v_hasDoor : Int32} {v_inRow : Int32} {H : Heap} {locs : List Loc} {ls : Array Slot} : wp_X0_put_18 x1 v_rows K v_signs v_columns v_squares v_hasDoor v_inRow → wd D A s.heap (w_X0_put cy a_this a_signs v_signs v_rows v_columns v_squares v_hasDoor v_inRow) H locs → lv_has ls 2 [(0, .ref a_this), (1, .int x1)] → W p l e { frames := 1, cells := 0, slots := 0, locals := 64 } s m args below meth c H locs 0 0 Q (F0 m 18 ls []) := by
  have hx := ha.1
  have hb := ha.2.1
  intro h hw hl
  have h : (v_rows = (1 : Int32) → wp_X0_put_38 x1 v_rows K v_signs v_columns v_squares v_hasDoor v_inRow (5 : Int32) v_inRow) ∧ (¬ (v_rows = (1 : Int32)) → wp_X0_put_38 x1 v_rows K v_signs v_columns v_squares v_hasDoor v_inRow v_columns v_inRow) := h
  refine lv_aload_n hx hb dX0_put_18 rfl (lv_at hl 0 rfl) ?_
  refine g_get (ci := 0) ha hw 0 5 rfl hi_X0_put_0 (by decide) (List.mem_of_getElem? (i := 1) rfl) rfl rfl dX0_put_19 ?_
  refine lv_aload_n hx hb dX0_put_22 rfl (lv_at hl 0 rfl) ?_
  refine g_get (ci := 0) ha hw 0 1 rfl hi_X0_put_0 (by decide) (List.mem_of_getElem? (i := 2) rfl) rfl rfl dX0_put_23 ?_
  refine lv_iconst (v := (1 : Int32)) hx hb dX0_put_26 (by decide) ?_
  refine lv_icmp_ne (tgt := 34) hx hb dX0_put_27 (by decide) (fun c2 => ?_) (fun c2 => ?_)
  · have h := h.2 c2
    refine lv_aload_n hx hb dX0_put_34 rfl (lv_at hl 0 rfl) ?_
    refine g_get (ci := 0) ha hw 0 2 rfl hi_X0_put_0 (by decide) (List.mem_of_getElem? (i := 3) rfl) rfl rfl dX0_put_35 ?_
    refine pl_X0_put_38 ha hr h hw (lv_sub hl [0, 1] rfl)
  · have h := h.1 c2
    refine lv_iconst (v := (5 : Int32)) hx hb dX0_put_30 (by decide) ?_
    refine lv_goto (tgt := 38) hx hb dX0_put_31 (by decide) ?_
    refine pl_X0_put_38 ha hr h hw (lv_sub hl [0, 1] rfl)
def wp_X0_put (x1 : Int32) (v_signs : IA) (v_rows : Int32) (v_columns : Int32) (v_squares : Int32) (v_hasDoor : Int32) (v_inRow : Int32) (K : Int32 → IA → Int32 → Int32 → Int32 → Int32 → Prop) : Prop := (x1 = (46 : Int32) → wp_X0_put_18 x1 v_rows K v_signs v_columns v_squares v_hasDoor v_inRow) ∧ (¬ (x1 = (46 : Int32)) → (x1 = (35 : Int32) → wp_X0_put_18 x1 v_rows K v_signs v_columns v_squares v_hasDoor v_inRow) ∧ (¬ (x1 = (35 : Int32)) → (x1 = (100 : Int32) → wp_X0_put_18 x1 v_rows K v_signs v_columns v_squares v_hasDoor v_inRow) ∧ (¬ (x1 = (100 : Int32)) → K (0 : Int32) v_signs v_columns v_squares v_hasDoor v_inRow)))
set_option maxHeartbeats 4000000 in
set_option maxRecDepth 100000 in
theorem c_X0_put {l : Launch} {D : va_G} {cy : ClassId} {a_this a_signs : Nat} {v_signs : IA} {v_rows : Int32} {v_columns : Int32} {v_squares : Int32} {v_hasDoor : Int32} {v_inRow : Int32} {x1 : Int32} {K : Int32 → IA → Int32 → Int32 → Int32 → Int32 → Prop} : CtI l yX0_put wsX0_put { frames := 1, cells := 0, slots := 0, locals := 64 } 0 0 D cy [.ref a_this, .int x1] (w_X0_put cy a_this a_signs v_signs v_rows v_columns v_squares v_hasDoor v_inRow) (wp_X0_put x1 v_signs v_rows v_columns v_squares v_hasDoor v_inRow K) (fun (u : IA × Int32 × Int32 × Int32 × Int32) => (w_X0_put cy a_this a_signs u.1 v_rows u.2.1 u.2.2.1 u.2.2.2.1 u.2.2.2.2)) (fun (r : Int32) (u : IA × Int32 × Int32 × Int32 × Int32) => nz r ∧ K r u.1 u.2.1 u.2.2.1 u.2.2.2.1 u.2.2.2.2) := by
  refine CtI.mk (cc := cX0_put) (nL := 2) (ty := .boolean) (by decide) rfl (Nat.le_of_ble_eq_true rfl) (fun r u h => h.1.nar) ?_
  intro p e s m args below meth c A Q ha hr _ h ls hl hw
  have ha : am p s m args c cX0_put 2 RX0 wsX0_put D cy A := ha
  have hx := ha.1
  have hb := ha.2.1
  have hl : lv_has ls 2 [(0, .ref a_this), (1, .int x1)] := hl
  have h : (x1 = (46 : Int32) → wp_X0_put_18 x1 v_rows K v_signs v_columns v_squares v_hasDoor v_inRow) ∧ (¬ (x1 = (46 : Int32)) → (x1 = (35 : Int32) → wp_X0_put_18 x1 v_rows K v_signs v_columns v_squares v_hasDoor v_inRow) ∧ (¬ (x1 = (35 : Int32)) → (x1 = (100 : Int32) → wp_X0_put_18 x1 v_rows K v_signs v_columns v_squares v_hasDoor v_inRow) ∧ (¬ (x1 = (100 : Int32)) → K (0 : Int32) v_signs v_columns v_squares v_hasDoor v_inRow))) := h
  refine lv_iload_n hx hb dX0_put_0 rfl (lv_at hl 1 rfl) ?_
  refine lv_bipush (v := (46 : Int32)) hx hb dX0_put_1 (by decide) ?_
  refine lv_icmp_eq (tgt := 18) hx hb dX0_put_3 (by decide) (fun c1 => ?_) (fun c1 => ?_)
  · have h := h.1 c1
    refine pl_X0_put_18 ha hr h hw (lv_sub hl [0, 1] rfl)
  · have h := h.2 c1
    refine lv_iload_n hx hb dX0_put_6 rfl (lv_at hl 1 rfl) ?_
    refine lv_bipush (v := (35 : Int32)) hx hb dX0_put_7 (by decide) ?_
    refine lv_icmp_eq (tgt := 18) hx hb dX0_put_9 (by decide) (fun c16 => ?_) (fun c16 => ?_)
    · have h := h.1 c16
      refine pl_X0_put_18 ha hr h hw (lv_sub hl [0, 1] rfl)
    · have h := h.2 c16
      refine lv_iload_n hx hb dX0_put_12 rfl (lv_at hl 1 rfl) ?_
      refine lv_bipush (v := (100 : Int32)) hx hb dX0_put_13 (by decide) ?_
      refine lv_icmp_ne (tgt := 41) hx hb dX0_put_15 (by decide) (fun c17 => ?_) (fun c17 => ?_)
      · have h := h.2 c17
        refine lv_iconst (v := (0 : Int32)) hx hb dX0_put_41 (by decide) ?_
        exact hr _ _ (v_signs, v_columns, v_squares, v_hasDoor, v_inRow) _ _ _ dX0_put_42 ⟨nz0, h⟩ hw
      · have h := h.1 c17
        refine pl_X0_put_18 ha hr h hw (lv_sub hl [0, 1] rfl)
theorem hq_X0_beginsRow : yX0_beginsRow.cls = RX0 ∧ yX0_beginsRow.cls ≠ "java/lang/invoke/MethodHandle" ∧ yX0_beginsRow.cls ≠ "java/lang/invoke/VarHandle" ∧ (parseMethodDescriptor yX0_beginsRow.desc).map (fun d => d.parameters.length) = some 0 := by decide +kernel
def w_X0_beginsRow (cy : ClassId) (a_this : Nat) (w_signs : Value) (v_rows : Int32) (v_columns : Int32) (v_squares : Int32) (v_hasDoor : Int32) (v_inRow : Int32) : va_W := [(a_this, .inr (0, [w_signs, .int v_rows, .int v_columns, .int v_squares, .int v_hasDoor, .int v_inRow]))]
theorem hi_X0_beginsRow_0 : ∀ w ∈ u_ws RX0 TX0 6, w ∈ wsX0_beginsRow := fun _ h => List.mem_cons_of_mem _ (List.mem_append_right _ h)
def wp_X0_beginsRow (v_rows : Int32) (v_columns : Int32) (v_inRow : Int32) (K : Int32 → Int32 → Int32 → Prop) : Prop := (v_inRow = 0 → K (0 : Int32) v_rows v_inRow) ∧ (¬ (v_inRow = 0) → (v_inRow < v_columns → K (0 : Int32) v_rows v_inRow) ∧ (¬ (v_inRow < v_columns) → (v_rows < (5 : Int32) → K (1 : Int32) (v_rows + (1 : Int32)) (0 : Int32)) ∧ (¬ (v_rows < (5 : Int32)) → K (0 : Int32) v_rows v_inRow)))
set_option maxHeartbeats 4000000 in
set_option maxRecDepth 100000 in
theorem c_X0_beginsRow {l : Launch} {D : va_G} {cy : ClassId} {a_this : Nat} {w_signs : Value} {v_rows : Int32} {v_columns : Int32} {v_squares : Int32} {v_hasDoor : Int32} {v_inRow : Int32} {K : Int32 → Int32 → Int32 → Prop} : CtI l yX0_beginsRow wsX0_beginsRow { frames := 1, cells := 0, slots := 0, locals := 64 } 0 0 D cy [.ref a_this] (w_X0_beginsRow cy a_this w_signs v_rows v_columns v_squares v_hasDoor v_inRow) (wp_X0_beginsRow v_rows v_columns v_inRow K) (fun (u : Int32 × Int32) => (w_X0_beginsRow cy a_this w_signs u.1 v_columns v_squares v_hasDoor u.2)) (fun (r : Int32) (u : Int32 × Int32) => nz r ∧ K r u.1 u.2) := by
  refine CtI.mk (cc := cX0_beginsRow) (nL := 1) (ty := .boolean) (by decide) rfl (Nat.le_of_ble_eq_true rfl) (fun r u h => h.1.nar) ?_
  intro p e s m args below meth c A Q ha hr _ h ls hl hw
  have ha : am p s m args c cX0_beginsRow 1 RX0 wsX0_beginsRow D cy A := ha
  have hx := ha.1
  have hb := ha.2.1
  have hl : lv_has ls 1 [(0, .ref a_this)] := hl
  have h : (v_inRow = 0 → K (0 : Int32) v_rows v_inRow) ∧ (¬ (v_inRow = 0) → (v_inRow < v_columns → K (0 : Int32) v_rows v_inRow) ∧ (¬ (v_inRow < v_columns) → (v_rows < (5 : Int32) → K (1 : Int32) (v_rows + (1 : Int32)) (0 : Int32)) ∧ (¬ (v_rows < (5 : Int32)) → K (0 : Int32) v_rows v_inRow))) := h
  refine lv_aload_n hx hb dX0_beginsRow_0 rfl (lv_at hl 0 rfl) ?_
  refine g_get (ci := 0) ha hw 0 5 rfl hi_X0_beginsRow_0 (by decide) (List.mem_of_getElem? (i := 1) rfl) rfl rfl dX0_beginsRow_1 ?_
  refine lv_if_eq (tgt := 26) hx hb dX0_beginsRow_4 (by decide) (fun c1 => ?_) (fun c1 => ?_)
  · have h := h.1 c1
    refine lv_iconst (v := (0 : Int32)) hx hb dX0_beginsRow_26 (by decide) ?_
    exact hr _ _ (v_rows, v_inRow) _ _ _ dX0_beginsRow_27 ⟨nz0, h⟩ hw
  · have h := h.2 c1
    refine lv_aload_n hx hb dX0_beginsRow_7 rfl (lv_at hl 0 rfl) ?_
    refine g_get (ci := 0) ha hw 0 5 rfl hi_X0_beginsRow_0 (by decide) (List.mem_of_getElem? (i := 1) rfl) rfl rfl dX0_beginsRow_8 ?_
    refine lv_aload_n hx hb dX0_beginsRow_11 rfl (lv_at hl 0 rfl) ?_
    refine g_get (ci := 0) ha hw 0 2 rfl hi_X0_beginsRow_0 (by decide) (List.mem_of_getElem? (i := 2) rfl) rfl rfl dX0_beginsRow_12 ?_
    refine lv_icmp_lt (tgt := 26) hx hb dX0_beginsRow_15 (by decide) (fun c2 => ?_) (fun c2 => ?_)
    · have h := h.1 c2
      refine lv_iconst (v := (0 : Int32)) hx hb dX0_beginsRow_26 (by decide) ?_
      exact hr _ _ (v_rows, v_inRow) _ _ _ dX0_beginsRow_27 ⟨nz0, h⟩ hw
    · have h := h.2 c2
      refine lv_aload_n hx hb dX0_beginsRow_18 rfl (lv_at hl 0 rfl) ?_
      refine g_get (ci := 0) ha hw 0 1 rfl hi_X0_beginsRow_0 (by decide) (List.mem_of_getElem? (i := 3) rfl) rfl rfl dX0_beginsRow_19 ?_
      refine lv_iconst (v := (5 : Int32)) hx hb dX0_beginsRow_22 (by decide) ?_
      refine lv_icmp_lt (tgt := 28) hx hb dX0_beginsRow_23 (by decide) (fun c3 => ?_) (fun c3 => ?_)
      · have h := h.1 c3
        refine lv_aload_n hx hb dX0_beginsRow_28 rfl (lv_at hl 0 rfl) ?_
        refine lv_dup hx hb dX0_beginsRow_29 rfl ?_
        refine g_get (ci := 0) ha hw 0 1 rfl hi_X0_beginsRow_0 (by decide) (List.mem_of_getElem? (i := 3) rfl) rfl rfl dX0_beginsRow_30 ?_
        refine lv_iconst (v := (1 : Int32)) hx hb dX0_beginsRow_33 (by decide) ?_
        refine lv_iadd hx hb dX0_beginsRow_34 ?_
        refine g_put (ci := 0) (wn := (w_X0_beginsRow cy a_this w_signs (v_rows + (1 : Int32)) v_columns v_squares v_hasDoor v_inRow)) ha hw 0 1 rfl hi_X0_beginsRow_0 tyX0_ok nmX0 (by decide) (List.mem_of_getElem? (i := 3) rfl) rfl rfl rfl rfl (Nat.le_of_ble_eq_true rfl) rfl dX0_beginsRow_35 (fun H locs hw => ?_)
        refine lv_aload_n hx hb dX0_beginsRow_38 rfl (lv_at hl 0 rfl) ?_
        refine lv_iconst (v := (0 : Int32)) hx hb dX0_beginsRow_39 (by decide) ?_
        refine g_put (ci := 0) (wn := (w_X0_beginsRow cy a_this w_signs (v_rows + (1 : Int32)) v_columns v_squares v_hasDoor (0 : Int32))) ha hw 0 5 rfl hi_X0_beginsRow_0 tyX0_ok nmX0 (by decide) (List.mem_of_getElem? (i := 1) rfl) rfl rfl rfl rfl (Nat.le_of_ble_eq_true rfl) rfl dX0_beginsRow_40 (fun H locs hw => ?_)
        refine lv_iconst (v := (1 : Int32)) hx hb dX0_beginsRow_43 (by decide) ?_
        exact hr _ _ (v_rows + (1 : Int32), (0 : Int32)) _ _ _ dX0_beginsRow_44 ⟨nz1, h⟩ hw
      · have h := h.2 c3
        refine lv_iconst (v := (0 : Int32)) hx hb dX0_beginsRow_26 (by decide) ?_
        exact hr _ _ (v_rows, v_inRow) _ _ _ dX0_beginsRow_27 ⟨nz0, h⟩ hw
theorem hq_X0_read : yX0_read.cls = RX0 ∧ yX0_read.cls ≠ "java/lang/invoke/MethodHandle" ∧ yX0_read.cls ≠ "java/lang/invoke/VarHandle" ∧ (parseMethodDescriptor yX0_read.desc).map (fun d => d.parameters.length) = some 1 := by decide +kernel
def w_X0_read (cy : ClassId) (a_this a_signs a_o1 a_o1_bytes : Nat) (v_signs : IA) (v_rows : Int32) (v_columns : Int32) (v_squares : Int32) (v_hasDoor : Int32) (v_inRow : Int32) (v_o1_bytes : IA) (v_o1_length : Int32) : va_W := [(a_this, .inr (0, [.ref a_signs, .int v_rows, .int v_columns, .int v_squares, .int v_hasDoor, .int v_inRow])), (a_signs, .inl (cy, 25, .inl v_signs)), (a_o1, .inr (8, [.ref a_o1_bytes, .int v_o1_length])), (a_o1_bytes, .inl (cy, 48, .inl v_o1_bytes))]
theorem hi_X0_read_0 : ∀ w ∈ u_ws RX0 TX0 6, w ∈ wsX0_read := fun _ h => List.mem_cons_of_mem _ (List.mem_append_left _ (List.mem_append_right _ h))
def wp_X0_read_59 (v_signs : IA) (v_rows : Int32) (v_columns : Int32) (v_squares : Int32) (v_hasDoor : Int32) (v_inRow : Int32) (E27 : Int32 → Prop) (K : Int32 → IA → Int32 → Int32 → Int32 → Int32 → Int32 → Prop) (x2 : Int32) (t0 : Int32) : Prop := (t0 = 0 → K x2 v_signs v_rows v_columns v_squares v_hasDoor v_inRow) ∧ (¬ (t0 = 0) → E27 (x2 + (1 : Int32)))
set_option maxHeartbeats 4000000 in
set_option maxRecDepth 100000 in
theorem pl_X0_read_59 {p : Program} {l : Launch} {e : Env} {s : State} {m : MethodId} {args : Array Value} {below : List Frame} {meth : Method} {c : Code} {A : Nat → Prop} {Q : State → Prop} {D : va_G} {cy : ClassId} {a_this a_signs a_o1 a_o1_bytes : Nat} {v_signs : IA} {v_rows : Int32} {v_columns : Int32} {v_squares : Int32} {v_hasDoor : Int32} {v_inRow : Int32} {v_o1_bytes : IA} {v_o1_length : Int32} {K : Int32 → IA → Int32 → Int32 → Int32 → Int32 → Int32 → Prop} {E27 : Int32 → Prop} (ha : am p s m args c cX0_read 5 RX0 wsX0_read D cy A) (hr : rtI p l e { frames := 2, cells := 0, slots := 0, locals := 149 } s m args below meth c 0 0 Q cX0_read D A (fun (u : IA × Int32 × Int32 × Int32 × Int32 × Int32) => (w_X0_read cy a_this a_signs a_o1 a_o1_bytes u.1 u.2.1 u.2.2.1 u.2.2.2.1 u.2.2.2.2.1 u.2.2.2.2.2 v_o1_bytes v_o1_length)) (fun (r : Int32) (u : IA × Int32 × Int32 × Int32 × Int32 × Int32) => K r u.1 u.2.1 u.2.2.1 u.2.2.2.1 u.2.2.2.2.1 u.2.2.2.2.2)) (hE27 : ∀ (x2' : Int32) (H : Heap) (locs : List Loc) (ls : Array Slot), E27 x2' → wd D A s.heap (w_X0_read cy a_this a_signs a_o1 a_o1_bytes v_signs v_rows v_columns v_squares v_hasDoor v_inRow v_o1_bytes v_o1_length) H locs → lv_has ls 5 [(0, .ref a_this), (1, .ref a_o1), (2, .int x2')] → W p l e { frames := 2, cells := 0, slots := 0, locals := 149 } s m args below meth c H locs 0 0 Q (F0 m 27 ls [])) {x2 : Int32} {t0 : Int32} {H : Heap} {locs : List Loc} {ls : Array Slot} : wp_X0_read_59 v_signs v_rows v_columns v_squares v_hasDoor v_inRow E27 K x2 t0 → wd D A s.heap (w_X0_read cy a_this a_signs a_o1 a_o1_bytes v_signs v_rows v_columns v_squares v_hasDoor v_inRow v_o1_bytes v_o1_length) H locs → lv_has ls 5 [(0, .ref a_this), (1, .ref a_o1), (2, .int x2)] → W p l e { frames := 2, cells := 0, slots := 0, locals := 149 } s m args below meth c H locs 0 0 Q (F0 m 59 ls [.int t0]) := by
  have hx := ha.1
  have hb := ha.2.1
  intro h hw hl
  have h : (t0 = 0 → K x2 v_signs v_rows v_columns v_squares v_hasDoor v_inRow) ∧ (¬ (t0 = 0) → E27 (x2 + (1 : Int32))) := h
  refine lv_istore (lv' := [(4, .int t0), (0, .ref a_this), (1, .ref a_o1), (2, .int x2)]) hx hb dX0_read_59 hl (by decide) rfl (fun ls hl => ?_)
  refine lv_iload hx hb dX0_read_61 (lv_at hl 0 rfl) ?_
  refine lv_if_ne (tgt := 68) hx hb dX0_read_63 (by decide) (fun c11 => ?_) (fun c11 => ?_)
  · have h := h.2 c11
    refine lv_iinc (v := x2 + (1 : Int32)) (lv' := [(2, .int (x2 + (1 : Int32))), (4, .int t0), (0, .ref a_this), (1, .ref a_o1)]) hx hb dX0_read_68 hl (k := 3) rfl rfl (by decide) rfl (fun ls hl => ?_)
    refine lv_goto (tgt := 27) hx hb dX0_read_71 (by decide) ?_
    exact hE27 _ _ _ _ h hw (lv_sub hl [2, 3, 0] rfl)
  · have h := h.1 c11
    refine lv_iload_n hx hb dX0_read_66 rfl (lv_at hl 3 rfl) ?_
    exact hr _ _ (v_signs, v_rows, v_columns, v_squares, v_hasDoor, v_inRow) _ _ _ dX0_read_67 h hw
def wp_X0_read_27 (v_o1_bytes : IA) (v_o1_length : Int32) (E74 : IA → Int32 → Int32 → Int32 → Int32 → Int32 → Prop) (K : Int32 → IA → Int32 → Int32 → Int32 → Int32 → Int32 → Prop) : Nat → Int32 → IA → Int32 → Int32 → Int32 → Int32 → Int32 → Prop
  | 0, _, _, _, _, _, _, _ => False
  | n + 1, x2, v_signs, v_rows, v_columns, v_squares, v_hasDoor, v_inRow => wp_X8_size v_o1_length (fun (r1 : Int32) => (r1 ≤ x2 → E74 v_signs v_rows v_columns v_squares v_hasDoor v_inRow) ∧ (¬ (r1 ≤ x2) → wp_X8_byteAt x2 v_o1_bytes v_o1_length (fun (r3 : Int32) => (r3 = (47 : Int32) → wp_X0_beginsRow v_rows v_columns v_inRow (fun (r13 : Int32) (v_rows_14 : Int32) (v_inRow_15 : Int32) => wp_X0_read_59 v_signs v_rows_14 v_columns v_squares v_hasDoor v_inRow_15 (fun (x2_16 : Int32) => wp_X0_read_27 v_o1_bytes v_o1_length E74 K n x2_16 v_signs v_rows_14 v_columns v_squares v_hasDoor v_inRow_15) K x2 r13)) ∧ (¬ (r3 = (47 : Int32)) → wp_X0_put r3 v_signs v_rows v_columns v_squares v_hasDoor v_inRow (fun (r5 : Int32) (v_signs_6 : IA) (v_columns_7 : Int32) (v_squares_8 : Int32) (v_hasDoor_9 : Int32) (v_inRow_10 : Int32) => wp_X0_read_59 v_signs_6 v_rows v_columns_7 v_squares_8 v_hasDoor_9 v_inRow_10 (fun (x2_12 : Int32) => wp_X0_read_27 v_o1_bytes v_o1_length E74 K n x2_12 v_signs_6 v_rows v_columns_7 v_squares_8 v_hasDoor_9 v_inRow_10) K x2 r5)))))
set_option maxHeartbeats 4000000 in
set_option maxRecDepth 100000 in
theorem pl_X0_read_27 {p : Program} {l : Launch} {e : Env} {s : State} {m : MethodId} {args : Array Value} {below : List Frame} {meth : Method} {c : Code} {A : Nat → Prop} {Q : State → Prop} {D : va_G} {cy : ClassId} {a_this a_signs a_o1 a_o1_bytes : Nat} {v_o1_bytes : IA} {v_o1_length : Int32} {K : Int32 → IA → Int32 → Int32 → Int32 → Int32 → Int32 → Prop} {E74 : IA → Int32 → Int32 → Int32 → Int32 → Int32 → Prop} (ha : am p s m args c cX0_read 5 RX0 wsX0_read D cy A) (hr : rtI p l e { frames := 2, cells := 0, slots := 0, locals := 149 } s m args below meth c 0 0 Q cX0_read D A (fun (u : IA × Int32 × Int32 × Int32 × Int32 × Int32) => (w_X0_read cy a_this a_signs a_o1 a_o1_bytes u.1 u.2.1 u.2.2.1 u.2.2.2.1 u.2.2.2.2.1 u.2.2.2.2.2 v_o1_bytes v_o1_length)) (fun (r : Int32) (u : IA × Int32 × Int32 × Int32 × Int32 × Int32) => K r u.1 u.2.1 u.2.2.1 u.2.2.2.1 u.2.2.2.2.1 u.2.2.2.2.2)) (hE74 : ∀ (v_signs' : IA) (v_rows' : Int32) (v_columns' : Int32) (v_squares' : Int32) (v_hasDoor' : Int32) (v_inRow' : Int32) (H : Heap) (locs : List Loc) (ls : Array Slot), E74 v_signs' v_rows' v_columns' v_squares' v_hasDoor' v_inRow' → wd D A s.heap (w_X0_read cy a_this a_signs a_o1 a_o1_bytes v_signs' v_rows' v_columns' v_squares' v_hasDoor' v_inRow' v_o1_bytes v_o1_length) H locs → lv_has ls 5 [(0, .ref a_this), (1, .ref a_o1)] → W p l e { frames := 2, cells := 0, slots := 0, locals := 149 } s m args below meth c H locs 0 0 Q (F0 m 74 ls [])) : ∀ (n : Nat) (x2 : Int32) (v_signs : IA) (v_rows : Int32) (v_columns : Int32) (v_squares : Int32) (v_hasDoor : Int32) (v_inRow : Int32) (H : Heap) (locs : List Loc) (ls : Array Slot), wp_X0_read_27 v_o1_bytes v_o1_length E74 K n x2 v_signs v_rows v_columns v_squares v_hasDoor v_inRow → wd D A s.heap (w_X0_read cy a_this a_signs a_o1 a_o1_bytes v_signs v_rows v_columns v_squares v_hasDoor v_inRow v_o1_bytes v_o1_length) H locs → lv_has ls 5 [(0, .ref a_this), (1, .ref a_o1), (2, .int x2)] → W p l e { frames := 2, cells := 0, slots := 0, locals := 149 } s m args below meth c H locs 0 0 Q (F0 m 27 ls []) := by
  have hx := ha.1
  have hb := ha.2.1
  intro n
  induction n with
  | zero => exact fun _ _ _ _ _ _ _ _ _ _ h _ _ => False.elim h
  | succ n ih =>
    intro x2 v_signs v_rows v_columns v_squares v_hasDoor v_inRow H locs ls h hw hl
    have h : wp_X8_size v_o1_length (fun (r1 : Int32) => (r1 ≤ x2 → E74 v_signs v_rows v_columns v_squares v_hasDoor v_inRow) ∧ (¬ (r1 ≤ x2) → wp_X8_byteAt x2 v_o1_bytes v_o1_length (fun (r3 : Int32) => (r3 = (47 : Int32) → wp_X0_beginsRow v_rows v_columns v_inRow (fun (r13 : Int32) (v_rows_14 : Int32) (v_inRow_15 : Int32) => wp_X0_read_59 v_signs v_rows_14 v_columns v_squares v_hasDoor v_inRow_15 (fun (x2_16 : Int32) => wp_X0_read_27 v_o1_bytes v_o1_length E74 K n x2_16 v_signs v_rows_14 v_columns v_squares v_hasDoor v_inRow_15) K x2 r13)) ∧ (¬ (r3 = (47 : Int32)) → wp_X0_put r3 v_signs v_rows v_columns v_squares v_hasDoor v_inRow (fun (r5 : Int32) (v_signs_6 : IA) (v_columns_7 : Int32) (v_squares_8 : Int32) (v_hasDoor_9 : Int32) (v_inRow_10 : Int32) => wp_X0_read_59 v_signs_6 v_rows v_columns_7 v_squares_8 v_hasDoor_9 v_inRow_10 (fun (x2_12 : Int32) => wp_X0_read_27 v_o1_bytes v_o1_length E74 K n x2_12 v_signs_6 v_rows v_columns_7 v_squares_8 v_hasDoor_9 v_inRow_10) K x2 r5))))) := h
    refine lv_iload_n hx hb dX0_read_27 rfl (lv_at hl 2 rfl) ?_
    refine lv_aload_n hx hb dX0_read_28 rfl (lv_at hl 1 rfl) ?_
    refine g_cvi (rm := { frames := 1, cells := 0, slots := 0, locals := 64 }) (wn := (fun (u : Unit) => (w_X0_read cy a_this a_signs a_o1 a_o1_bytes v_signs v_rows v_columns v_squares v_hasDoor v_inRow v_o1_bytes v_o1_length))) (As := []) ha hw hl.1 (c_X8_size (cy := cy)) (cwV 0 ha.2.2.2.2.1 gX0_read_X8_size rfl rfl rfl hq_X8_size ⟨Nat.le_of_ble_eq_true rfl, Nat.le_of_ble_eq_true rfl⟩) [2] [0, 1, 3] [0, 1, 3, 2] rfl rfl rfl rfl (by decide) rfl (fun _ => rfl) rfl rfl h rfl rfl (Nat.le_of_ble_eq_true rfl) dX0_read_29 ⟨Nat.le_refl _, Nat.le_refl _⟩ (fun r1 u H locs h hw => ?_)
    have hw : wd D A s.heap (w_X0_read cy a_this a_signs a_o1 a_o1_bytes v_signs v_rows v_columns v_squares v_hasDoor v_inRow v_o1_bytes v_o1_length) H locs := hw
    try dsimp only at h
    refine lv_icmp_ge (tgt := 74) hx hb dX0_read_32 (by decide) (fun c2 => ?_) (fun c2 => ?_)
    · have h := h.1 c2
      exact hE74 _ _ _ _ _ _ _ _ _ h hw (lv_sub hl [0, 1] rfl)
    · have h := h.2 c2
      refine lv_aload_n hx hb dX0_read_35 rfl (lv_at hl 1 rfl) ?_
      refine lv_iload_n hx hb dX0_read_36 rfl (lv_at hl 2 rfl) ?_
      refine g_cvi (rm := { frames := 1, cells := 0, slots := 0, locals := 64 }) (wn := (fun (u : Unit) => (w_X0_read cy a_this a_signs a_o1 a_o1_bytes v_signs v_rows v_columns v_squares v_hasDoor v_inRow v_o1_bytes v_o1_length))) (As := [.int x2]) ha hw hl.1 (c_X8_byteAt (cy := cy)) (cwV 1 ha.2.2.2.2.1 gX0_read_X8_byteAt rfl rfl rfl hq_X8_byteAt ⟨Nat.le_of_ble_eq_true rfl, Nat.le_of_ble_eq_true rfl⟩) [2, 3] [0, 1] [0, 1, 2, 3] rfl rfl rfl rfl (by decide) rfl (fun _ => rfl) rfl rfl h rfl rfl (Nat.le_of_ble_eq_true rfl) dX0_read_37 ⟨Nat.le_refl _, Nat.le_refl _⟩ (fun r3 u H locs h hw => ?_)
      have hw : wd D A s.heap (w_X0_read cy a_this a_signs a_o1 a_o1_bytes v_signs v_rows v_columns v_squares v_hasDoor v_inRow v_o1_bytes v_o1_length) H locs := hw
      try dsimp only at h
      refine lv_istore_n (lv' := [(3, .int r3), (0, .ref a_this), (1, .ref a_o1), (2, .int x2)]) hx hb dX0_read_40 rfl hl (by decide) rfl (fun ls hl => ?_)
      refine lv_iload_n hx hb dX0_read_41 rfl (lv_at hl 0 rfl) ?_
      refine lv_bipush (v := (47 : Int32)) hx hb dX0_read_42 (by decide) ?_
      refine lv_icmp_ne (tgt := 54) hx hb dX0_read_44 (by decide) (fun c4 => ?_) (fun c4 => ?_)
      · have h := h.2 c4
        refine lv_aload_n hx hb dX0_read_54 rfl (lv_at hl 1 rfl) ?_
        refine lv_iload_n hx hb dX0_read_55 rfl (lv_at hl 0 rfl) ?_
        refine g_cvi (rm := { frames := 1, cells := 0, slots := 0, locals := 64 }) (wn := (fun (u : IA × Int32 × Int32 × Int32 × Int32) => (w_X0_read cy a_this a_signs a_o1 a_o1_bytes u.1 v_rows u.2.1 u.2.2.1 u.2.2.2.1 u.2.2.2.2 v_o1_bytes v_o1_length))) (As := [.int r3]) ha hw hl.1 (c_X0_put (cy := cy)) (cwV 1 ha.2.2.2.2.1 gX0_read_X0_put rfl rfl rfl hq_X0_put ⟨Nat.le_of_ble_eq_true rfl, Nat.le_of_ble_eq_true rfl⟩) [0, 1] [2, 3] [2, 3, 0, 1] rfl rfl rfl rfl (by decide) rfl (fun _ => rfl) rfl rfl h rfl rfl (Nat.le_of_ble_eq_true rfl) dX0_read_56 ⟨Nat.le_refl _, Nat.le_refl _⟩ (fun r5 u H locs h hw => ?_)
        obtain ⟨v_signs_6, v_columns_7, v_squares_8, v_hasDoor_9, v_inRow_10⟩ := u
        have hw : wd D A s.heap (w_X0_read cy a_this a_signs a_o1 a_o1_bytes v_signs_6 v_rows v_columns_7 v_squares_8 v_hasDoor_9 v_inRow_10 v_o1_bytes v_o1_length) H locs := hw
        obtain ⟨zr5, h⟩ := h
        try dsimp only at h
        refine pl_X0_read_59 ha hr ?_ h hw (lv_sub hl [1, 2, 3] rfl)
        · intro x2_12 H locs ls h hw hl
          try dsimp only at h
          exact ih _ _ _ _ _ _ _ _ _ _ h hw (lv_sub hl [0, 1, 2] rfl)
      · have h := h.1 c4
        refine lv_aload_n hx hb dX0_read_47 rfl (lv_at hl 1 rfl) ?_
        refine g_cvi (rm := { frames := 1, cells := 0, slots := 0, locals := 64 }) (wn := (fun (u : Int32 × Int32) => (w_X0_read cy a_this a_signs a_o1 a_o1_bytes v_signs u.1 v_columns v_squares v_hasDoor u.2 v_o1_bytes v_o1_length))) (As := []) ha hw hl.1 (c_X0_beginsRow (cy := cy)) (cwV 0 ha.2.2.2.2.1 gX0_read_X0_beginsRow rfl rfl rfl hq_X0_beginsRow ⟨Nat.le_of_ble_eq_true rfl, Nat.le_of_ble_eq_true rfl⟩) [0] [1, 2, 3] [3, 0, 1, 2] rfl rfl rfl rfl (by decide) rfl (fun _ => rfl) rfl rfl h rfl rfl (Nat.le_of_ble_eq_true rfl) dX0_read_48 ⟨Nat.le_refl _, Nat.le_refl _⟩ (fun r13 u H locs h hw => ?_)
        obtain ⟨v_rows_14, v_inRow_15⟩ := u
        have hw : wd D A s.heap (w_X0_read cy a_this a_signs a_o1 a_o1_bytes v_signs v_rows_14 v_columns v_squares v_hasDoor v_inRow_15 v_o1_bytes v_o1_length) H locs := hw
        obtain ⟨zr13, h⟩ := h
        try dsimp only at h
        refine lv_goto (tgt := 59) hx hb dX0_read_51 (by decide) ?_
        refine pl_X0_read_59 ha hr ?_ h hw (lv_sub hl [1, 2, 3] rfl)
        · intro x2_16 H locs ls h hw hl
          try dsimp only at h
          exact ih _ _ _ _ _ _ _ _ _ _ h hw (lv_sub hl [0, 1, 2] rfl)
def wp_X0_read_97 (v_signs : IA) (v_rows : Int32) (v_columns : Int32) (v_squares : Int32) (v_hasDoor : Int32) (v_inRow : Int32) (v_o1_length : Int32) (K : Int32 → IA → Int32 → Int32 → Int32 → Int32 → Int32 → Prop) : Prop := wp_X8_size v_o1_length (fun (r24 : Int32) => K r24 v_signs v_rows v_columns v_squares v_hasDoor v_inRow)
set_option maxHeartbeats 4000000 in
set_option maxRecDepth 100000 in
theorem pl_X0_read_97 {p : Program} {l : Launch} {e : Env} {s : State} {m : MethodId} {args : Array Value} {below : List Frame} {meth : Method} {c : Code} {A : Nat → Prop} {Q : State → Prop} {D : va_G} {cy : ClassId} {a_this a_signs a_o1 a_o1_bytes : Nat} {v_signs : IA} {v_rows : Int32} {v_columns : Int32} {v_squares : Int32} {v_hasDoor : Int32} {v_inRow : Int32} {v_o1_bytes : IA} {v_o1_length : Int32} {K : Int32 → IA → Int32 → Int32 → Int32 → Int32 → Int32 → Prop} (ha : am p s m args c cX0_read 5 RX0 wsX0_read D cy A) (hr : rtI p l e { frames := 2, cells := 0, slots := 0, locals := 149 } s m args below meth c 0 0 Q cX0_read D A (fun (u : IA × Int32 × Int32 × Int32 × Int32 × Int32) => (w_X0_read cy a_this a_signs a_o1 a_o1_bytes u.1 u.2.1 u.2.2.1 u.2.2.2.1 u.2.2.2.2.1 u.2.2.2.2.2 v_o1_bytes v_o1_length)) (fun (r : Int32) (u : IA × Int32 × Int32 × Int32 × Int32 × Int32) => K r u.1 u.2.1 u.2.2.1 u.2.2.2.1 u.2.2.2.2.1 u.2.2.2.2.2)) {H : Heap} {locs : List Loc} {ls : Array Slot} : wp_X0_read_97 v_signs v_rows v_columns v_squares v_hasDoor v_inRow v_o1_length K → wd D A s.heap (w_X0_read cy a_this a_signs a_o1 a_o1_bytes v_signs v_rows v_columns v_squares v_hasDoor v_inRow v_o1_bytes v_o1_length) H locs → lv_has ls 5 [(1, .ref a_o1)] → W p l e { frames := 2, cells := 0, slots := 0, locals := 149 } s m args below meth c H locs 0 0 Q (F0 m 97 ls []) := by
  have hx := ha.1
  have hb := ha.2.1
  intro h hw hl
  have h : wp_X8_size v_o1_length (fun (r24 : Int32) => K r24 v_signs v_rows v_columns v_squares v_hasDoor v_inRow) := h
  refine lv_aload_n hx hb dX0_read_97 rfl (lv_at hl 0 rfl) ?_
  refine g_cvi (rm := { frames := 1, cells := 0, slots := 0, locals := 64 }) (wn := (fun (u : Unit) => (w_X0_read cy a_this a_signs a_o1 a_o1_bytes v_signs v_rows v_columns v_squares v_hasDoor v_inRow v_o1_bytes v_o1_length))) (As := []) ha hw hl.1 (c_X8_size (cy := cy)) (cwV 0 ha.2.2.2.2.1 gX0_read_X8_size rfl rfl rfl hq_X8_size ⟨Nat.le_of_ble_eq_true rfl, Nat.le_of_ble_eq_true rfl⟩) [2] [0, 1, 3] [0, 1, 3, 2] rfl rfl rfl rfl (by decide) rfl (fun _ => rfl) rfl rfl h rfl rfl (Nat.le_of_ble_eq_true rfl) dX0_read_98 ⟨Nat.le_refl _, Nat.le_refl _⟩ (fun r24 u H locs h hw => ?_)
  have hw : wd D A s.heap (w_X0_read cy a_this a_signs a_o1 a_o1_bytes v_signs v_rows v_columns v_squares v_hasDoor v_inRow v_o1_bytes v_o1_length) H locs := hw
  try dsimp only at h
  exact hr _ _ (v_signs, v_rows, v_columns, v_squares, v_hasDoor, v_inRow) _ _ _ dX0_read_101 h hw
def wp_X0_read (v_signs : IA) (v_rows : Int32) (v_columns : Int32) (v_squares : Int32) (v_hasDoor : Int32) (v_inRow : Int32) (v_o1_bytes : IA) (v_o1_length : Int32) (K : Int32 → IA → Int32 → Int32 → Int32 → Int32 → Int32 → Prop) : Prop := ∃ n26 : Nat, wp_X0_read_27 v_o1_bytes v_o1_length (fun (v_signs_17 : IA) (v_rows_18 : Int32) (v_columns_19 : Int32) (v_squares_20 : Int32) (v_hasDoor_21 : Int32) (v_inRow_22 : Int32) => (v_hasDoor_21 = 0 → wp_X0_read_97 v_signs_17 v_rows_18 v_columns_19 v_squares_20 v_hasDoor_21 v_inRow_22 v_o1_length K) ∧ (¬ (v_hasDoor_21 = 0) → (v_inRow_22 = v_columns_19 → K (-9 : Int32) v_signs_17 v_rows_18 v_columns_19 v_squares_20 v_hasDoor_21 v_inRow_22) ∧ (¬ (v_inRow_22 = v_columns_19) → wp_X0_read_97 v_signs_17 v_rows_18 v_columns_19 v_squares_20 v_hasDoor_21 v_inRow_22 v_o1_length K))) K n26 (0 : Int32) v_signs (1 : Int32) (0 : Int32) (0 : Int32) (0 : Int32) (0 : Int32)
set_option maxHeartbeats 4000000 in
set_option maxRecDepth 100000 in
theorem c_X0_read {l : Launch} {D : va_G} {cy : ClassId} {a_this a_signs a_o1 a_o1_bytes : Nat} {v_signs : IA} {v_rows : Int32} {v_columns : Int32} {v_squares : Int32} {v_hasDoor : Int32} {v_inRow : Int32} {v_o1_bytes : IA} {v_o1_length : Int32} {K : Int32 → IA → Int32 → Int32 → Int32 → Int32 → Int32 → Prop} : CtI l yX0_read wsX0_read { frames := 2, cells := 0, slots := 0, locals := 149 } 0 0 D cy [.ref a_this, .ref a_o1] (w_X0_read cy a_this a_signs a_o1 a_o1_bytes v_signs v_rows v_columns v_squares v_hasDoor v_inRow v_o1_bytes v_o1_length) (wp_X0_read v_signs v_rows v_columns v_squares v_hasDoor v_inRow v_o1_bytes v_o1_length K) (fun (u : IA × Int32 × Int32 × Int32 × Int32 × Int32) => (w_X0_read cy a_this a_signs a_o1 a_o1_bytes u.1 u.2.1 u.2.2.1 u.2.2.2.1 u.2.2.2.2.1 u.2.2.2.2.2 v_o1_bytes v_o1_length)) (fun (r : Int32) (u : IA × Int32 × Int32 × Int32 × Int32 × Int32) => K r u.1 u.2.1 u.2.2.1 u.2.2.2.1 u.2.2.2.2.1 u.2.2.2.2.2) := by
  refine CtI.mk (cc := cX0_read) (nL := 5) (ty := .int) (by decide) rfl (Nat.le_of_ble_eq_true rfl) (fun r u h => rfl) ?_
  intro p e s m args below meth c A Q ha hr _ h ls hl hw
  have ha : am p s m args c cX0_read 5 RX0 wsX0_read D cy A := ha
  have hx := ha.1
  have hb := ha.2.1
  have hl : lv_has ls 5 [(0, .ref a_this), (1, .ref a_o1)] := hl
  have h : ∃ n26 : Nat, wp_X0_read_27 v_o1_bytes v_o1_length (fun (v_signs_17 : IA) (v_rows_18 : Int32) (v_columns_19 : Int32) (v_squares_20 : Int32) (v_hasDoor_21 : Int32) (v_inRow_22 : Int32) => (v_hasDoor_21 = 0 → wp_X0_read_97 v_signs_17 v_rows_18 v_columns_19 v_squares_20 v_hasDoor_21 v_inRow_22 v_o1_length K) ∧ (¬ (v_hasDoor_21 = 0) → (v_inRow_22 = v_columns_19 → K (-9 : Int32) v_signs_17 v_rows_18 v_columns_19 v_squares_20 v_hasDoor_21 v_inRow_22) ∧ (¬ (v_inRow_22 = v_columns_19) → wp_X0_read_97 v_signs_17 v_rows_18 v_columns_19 v_squares_20 v_hasDoor_21 v_inRow_22 v_o1_length K))) K n26 (0 : Int32) v_signs (1 : Int32) (0 : Int32) (0 : Int32) (0 : Int32) (0 : Int32) := h
  refine lv_aload_n hx hb dX0_read_0 rfl (lv_at hl 0 rfl) ?_
  refine lv_iconst (v := (1 : Int32)) hx hb dX0_read_1 (by decide) ?_
  refine g_put (ci := 0) (wn := (w_X0_read cy a_this a_signs a_o1 a_o1_bytes v_signs (1 : Int32) v_columns v_squares v_hasDoor v_inRow v_o1_bytes v_o1_length)) ha hw 0 1 rfl hi_X0_read_0 tyX0_ok nmX0 (by decide) (List.mem_of_getElem? (i := 1) rfl) rfl rfl rfl rfl (Nat.le_of_ble_eq_true rfl) rfl dX0_read_2 (fun H locs hw => ?_)
  refine lv_aload_n hx hb dX0_read_5 rfl (lv_at hl 0 rfl) ?_
  refine lv_iconst (v := (0 : Int32)) hx hb dX0_read_6 (by decide) ?_
  refine g_put (ci := 0) (wn := (w_X0_read cy a_this a_signs a_o1 a_o1_bytes v_signs (1 : Int32) (0 : Int32) v_squares v_hasDoor v_inRow v_o1_bytes v_o1_length)) ha hw 0 2 rfl hi_X0_read_0 tyX0_ok nmX0 (by decide) (List.mem_of_getElem? (i := 2) rfl) rfl rfl rfl rfl (Nat.le_of_ble_eq_true rfl) rfl dX0_read_7 (fun H locs hw => ?_)
  refine lv_aload_n hx hb dX0_read_10 rfl (lv_at hl 0 rfl) ?_
  refine lv_iconst (v := (0 : Int32)) hx hb dX0_read_11 (by decide) ?_
  refine g_put (ci := 0) (wn := (w_X0_read cy a_this a_signs a_o1 a_o1_bytes v_signs (1 : Int32) (0 : Int32) (0 : Int32) v_hasDoor v_inRow v_o1_bytes v_o1_length)) ha hw 0 3 rfl hi_X0_read_0 tyX0_ok nmX0 (by decide) (List.mem_of_getElem? (i := 3) rfl) rfl rfl rfl rfl (Nat.le_of_ble_eq_true rfl) rfl dX0_read_12 (fun H locs hw => ?_)
  refine lv_aload_n hx hb dX0_read_15 rfl (lv_at hl 0 rfl) ?_
  refine lv_iconst (v := (0 : Int32)) hx hb dX0_read_16 (by decide) ?_
  refine g_put (ci := 0) (wn := (w_X0_read cy a_this a_signs a_o1 a_o1_bytes v_signs (1 : Int32) (0 : Int32) (0 : Int32) (0 : Int32) v_inRow v_o1_bytes v_o1_length)) ha hw 0 4 rfl hi_X0_read_0 tyX0_ok nmX0 (by decide) (List.mem_of_getElem? (i := 4) rfl) rfl rfl rfl rfl (Nat.le_of_ble_eq_true rfl) rfl dX0_read_17 (fun H locs hw => ?_)
  refine lv_aload_n hx hb dX0_read_20 rfl (lv_at hl 0 rfl) ?_
  refine lv_iconst (v := (0 : Int32)) hx hb dX0_read_21 (by decide) ?_
  refine g_put (ci := 0) (wn := (w_X0_read cy a_this a_signs a_o1 a_o1_bytes v_signs (1 : Int32) (0 : Int32) (0 : Int32) (0 : Int32) (0 : Int32) v_o1_bytes v_o1_length)) ha hw 0 5 rfl hi_X0_read_0 tyX0_ok nmX0 (by decide) (List.mem_of_getElem? (i := 5) rfl) rfl rfl rfl rfl (Nat.le_of_ble_eq_true rfl) rfl dX0_read_22 (fun H locs hw => ?_)
  refine lv_iconst (v := (0 : Int32)) hx hb dX0_read_25 (by decide) ?_
  refine lv_istore_n (lv' := [(2, .int (0 : Int32)), (0, .ref a_this), (1, .ref a_o1)]) hx hb dX0_read_26 rfl hl (by decide) rfl (fun ls hl => ?_)
  obtain ⟨n9, h⟩ := h
  refine pl_X0_read_27 ha hr ?_ n9 _ _ _ _ _ _ _ _ _ _ h hw (lv_sub hl [1, 2, 0] rfl)
  · intro v_signs_17 v_rows_18 v_columns_19 v_squares_20 v_hasDoor_21 v_inRow_22 H locs ls h hw hl
    try dsimp only at h
    refine lv_aload_n hx hb dX0_read_74 rfl (lv_at hl 0 rfl) ?_
    refine g_get (ci := 0) ha hw 0 4 rfl hi_X0_read_0 (by decide) (List.mem_of_getElem? (i := 4) rfl) rfl rfl dX0_read_75 ?_
    refine lv_if_eq (tgt := 97) hx hb dX0_read_78 (by decide) (fun c23 => ?_) (fun c23 => ?_)
    · have h := h.1 c23
      refine pl_X0_read_97 ha hr h hw (lv_sub hl [1] rfl)
    · have h := h.2 c23
      refine lv_aload_n hx hb dX0_read_81 rfl (lv_at hl 0 rfl) ?_
      refine g_get (ci := 0) ha hw 0 5 rfl hi_X0_read_0 (by decide) (List.mem_of_getElem? (i := 5) rfl) rfl rfl dX0_read_82 ?_
      refine lv_aload_n hx hb dX0_read_85 rfl (lv_at hl 0 rfl) ?_
      refine g_get (ci := 0) ha hw 0 2 rfl hi_X0_read_0 (by decide) (List.mem_of_getElem? (i := 2) rfl) rfl rfl dX0_read_86 ?_
      refine lv_icmp_ne (tgt := 97) hx hb dX0_read_89 (by decide) (fun c25 => ?_) (fun c25 => ?_)
      · have h := h.2 c25
        refine pl_X0_read_97 ha hr h hw (lv_sub hl [1] rfl)
      · have h := h.1 c25
        refine lv_bipush (v := (-9 : Int32)) hx hb dX0_read_92 (by decide) ?_
        refine lv_goto (tgt := 101) hx hb dX0_read_94 (by decide) ?_
        exact hr _ _ (v_signs_17, v_rows_18, v_columns_19, v_squares_20, v_hasDoor_21, v_inRow_22) _ _ _ dX0_read_101 h hw
