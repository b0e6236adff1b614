theorem hq_X4_number : yX4_number.cls = RX4 ∧ yX4_number.cls ≠ "java/lang/invoke/MethodHandle" ∧ yX4_number.cls ≠ "java/lang/invoke/VarHandle" ∧ (parseMethodDescriptor yX4_number.desc).map (fun d => d.parameters.length) = some 1 := by decide +kernel
def w_X4_number (cy : ClassId) (a_this a_numbers a_o1 a_o1_signs : Nat) (w_beside w_been : Value) (v_numbers : IA) (v_squares : Int32) (v_door : Int32) (v_o1_signs : IA) (v_o1_rows : Int32) (v_o1_columns : Int32) (v_o1_squares : Int32) (v_o1_hasDoor : Int32) (v_o1_inRow : Int32) : va_W := [(a_this, .inr (4, [.ref a_numbers, w_beside, w_been, .int v_squares, .int v_door])), (a_numbers, .inl (cy, 25, .inl v_numbers)), (a_o1, .inr (0, [.ref a_o1_signs, .int v_o1_rows, .int v_o1_columns, .int v_o1_squares, .int v_o1_hasDoor, .int v_o1_inRow])), (a_o1_signs, .inl (cy, 25, .inl v_o1_signs))]
theorem hi_X4_number_0 : ∀ w ∈ u_ws RX0 TX0 6, w ∈ wsX4_number := fun _ h => List.mem_cons_of_mem _ (List.mem_append_right _ h)
theorem hi_X4_number_4 : ∀ w ∈ u_ws RX4 TX4 5, w ∈ wsX4_number := fun _ h => List.mem_cons_of_mem _ (List.mem_append_left _ (List.mem_append_right _ h))
def wp_X4_number_52 (x2 : Int32) (x4 : Int32) (E22 : Int32 → IA → Int32 → Prop) (K : IA → Int32 → Int32 → Prop) (x3 : Int32) (v_numbers : IA) (v_squares : Int32) : Prop := (x4 = 0 → E22 (x3 + (1 : Int32)) v_numbers v_squares) ∧ (¬ (x4 = 0) → ((10 : Int32) ≤ v_squares → E22 (x3 + (1 : Int32)) v_numbers v_squares) ∧ (¬ ((10 : Int32) ≤ v_squares) → vp_in ((x2 * (5 : Int32)) + x3) 25 ∧ (E22 (x3 + (1 : Int32)) (upd v_numbers ((x2 * (5 : Int32)) + x3).toNatClampNeg v_squares) (v_squares + (1 : Int32)))))
set_option maxHeartbeats 4000000 in
set_option maxRecDepth 100000 in
theorem pl_X4_number_52 {p : Program} {l : Launch} {e : Env} {s : State} {m : MethodId} {args : Array Value} {below : List Frame} {meth : Method} {c : Code} {A : Nat → Prop} {Q : State → Prop} {D : va_G} {cy : ClassId} {a_this a_numbers a_o1 a_o1_signs : Nat} {w_beside w_been : Value} {v_door : Int32} {v_o1_signs : IA} {v_o1_rows : Int32} {v_o1_columns : Int32} {v_o1_squares : Int32} {v_o1_hasDoor : Int32} {v_o1_inRow : Int32} {x2 : Int32} {x4 : Int32} {K : IA → Int32 → Int32 → Prop} {E22 : Int32 → IA → Int32 → Prop} (ha : am p s m args c cX4_number 5 RX4 wsX4_number D cy A) (hr : rtV p l e { frames := 2, cells := 0, slots := 0, locals := 151 } s m args below meth c 0 0 Q cX4_number D A (fun (u : IA × Int32 × Int32) => (w_X4_number cy a_this a_numbers a_o1 a_o1_signs w_beside w_been u.1 u.2.1 u.2.2 v_o1_signs v_o1_rows v_o1_columns v_o1_squares v_o1_hasDoor v_o1_inRow)) (fun (u : IA × Int32 × Int32) => K u.1 u.2.1 u.2.2)) (hE22 : ∀ (x3' : Int32) (v_numbers' : IA) (v_squares' : Int32) (H : Heap) (locs : List Loc) (ls : Array Slot), E22 x3' v_numbers' v_squares' → wd D A s.heap (w_X4_number cy a_this a_numbers a_o1 a_o1_signs w_beside w_been v_numbers' v_squares' v_door v_o1_signs v_o1_rows v_o1_columns v_o1_squares v_o1_hasDoor v_o1_inRow) H locs → lv_has ls 5 [(0, .ref a_this), (1, .ref a_o1), (2, .int x2), (3, .int x3')] → W p l e { frames := 2, cells := 0, slots := 0, locals := 151 } s m args below meth c H locs 0 0 Q (F0 m 22 ls [])) {x3 : Int32} {v_numbers : IA} {v_squares : Int32} {H : Heap} {locs : List Loc} {ls : Array Slot} : wp_X4_number_52 x2 x4 E22 K x3 v_numbers v_squares → wd D A s.heap (w_X4_number cy a_this a_numbers a_o1 a_o1_signs w_beside w_been v_numbers v_squares v_door v_o1_signs v_o1_rows v_o1_columns v_o1_squares v_o1_hasDoor v_o1_inRow) H locs → lv_has ls 5 [(0, .ref a_this), (1, .ref a_o1), (2, .int x2), (3, .int x3), (4, .int x4)] → W p l e { frames := 2, cells := 0, slots := 0, locals := 151 } s m args below meth c H locs 0 0 Q (F0 m 52 ls []) := by
  have hx := ha.1
  have hb := ha.2.1
  intro h hw hl
  have h : (x4 = 0 → E22 (x3 + (1 : Int32)) v_numbers v_squares) ∧ (¬ (x4 = 0) → ((10 : Int32) ≤ v_squares → E22 (x3 + (1 : Int32)) v_numbers v_squares) ∧ (¬ ((10 : Int32) ≤ v_squares) → vp_in ((x2 * (5 : Int32)) + x3) 25 ∧ (E22 (x3 + (1 : Int32)) (upd v_numbers ((x2 * (5 : Int32)) + x3).toNatClampNeg v_squares) (v_squares + (1 : Int32))))) := h
  refine lv_iload hx hb dX4_number_52 (lv_at hl 4 rfl) ?_
  refine lv_if_eq (tgt := 90) hx hb dX4_number_54 (by decide) (fun c5 => ?_) (fun c5 => ?_)
  · have h := h.1 c5
    refine lv_iinc (v := x3 + (1 : Int32)) (lv' := [(3, .int (x3 + (1 : Int32))), (0, .ref a_this), (1, .ref a_o1), (2, .int x2), (4, .int x4)]) hx hb dX4_number_90 hl (k := 3) rfl rfl (by decide) rfl (fun ls hl => ?_)
    refine lv_goto (tgt := 22) hx hb dX4_number_93 (by decide) ?_
    exact hE22 _ _ _ _ _ _ h hw (lv_sub hl [1, 2, 3, 0] rfl)
  · have h := h.2 c5
    refine lv_aload_n hx hb dX4_number_57 rfl (lv_at hl 0 rfl) ?_
    refine g_get (ci := 4) ha hw 0 3 rfl hi_X4_number_4 (by decide) (List.mem_of_getElem? (i := 1) rfl) rfl rfl dX4_number_58 ?_
    refine lv_bipush (v := (10 : Int32)) hx hb dX4_number_61 (by decide) ?_
    refine lv_icmp_ge (tgt := 90) hx hb dX4_number_63 (by decide) (fun c6 => ?_) (fun c6 => ?_)
    · have h := h.1 c6
      refine lv_iinc (v := x3 + (1 : Int32)) (lv' := [(3, .int (x3 + (1 : Int32))), (0, .ref a_this), (1, .ref a_o1), (2, .int x2), (4, .int x4)]) hx hb dX4_number_90 hl (k := 3) rfl rfl (by decide) rfl (fun ls hl => ?_)
      refine lv_goto (tgt := 22) hx hb dX4_number_93 (by decide) ?_
      exact hE22 _ _ _ _ _ _ h hw (lv_sub hl [1, 2, 3, 0] rfl)
    · have h := h.2 c6
      refine lv_aload_n hx hb dX4_number_66 rfl (lv_at hl 0 rfl) ?_
      refine g_get (ci := 4) ha hw 0 0 rfl hi_X4_number_4 (by decide) (List.mem_of_getElem? (i := 3) rfl) rfl rfl dX4_number_67 ?_
      refine lv_iload_n hx hb dX4_number_70 rfl (lv_at hl 2 rfl) ?_
      refine lv_iconst (v := (5 : Int32)) hx hb dX4_number_71 (by decide) ?_
      refine lv_imul hx hb dX4_number_72 ?_
      refine lv_iload_n hx hb dX4_number_73 rfl (lv_at hl 3 rfl) ?_
      refine lv_iadd hx hb dX4_number_74 ?_
      refine lv_aload_n hx hb dX4_number_75 rfl (lv_at hl 0 rfl) ?_
      refine g_get (ci := 4) ha hw 0 3 rfl hi_X4_number_4 (by decide) (List.mem_of_getElem? (i := 1) rfl) rfl rfl dX4_number_76 ?_
      obtain ⟨z7, h⟩ := h
      refine g_ast (wn := (w_X4_number cy a_this a_numbers a_o1 a_o1_signs w_beside w_been (upd v_numbers ((x2 * (5 : Int32)) + x3).toNatClampNeg v_squares) v_squares v_door v_o1_signs v_o1_rows v_o1_columns v_o1_squares v_o1_hasDoor v_o1_inRow)) ha hw 1 rfl z7 rfl dX4_number_79 (fun H locs hw => ?_)
      refine lv_aload_n hx hb dX4_number_80 rfl (lv_at hl 0 rfl) ?_
      refine lv_dup hx hb dX4_number_81 rfl ?_
      refine g_get (ci := 4) ha hw 0 3 rfl hi_X4_number_4 (by decide) (List.mem_of_getElem? (i := 1) rfl) rfl rfl dX4_number_82 ?_
      refine lv_iconst (v := (1 : Int32)) hx hb dX4_number_85 (by decide) ?_
      refine lv_iadd hx hb dX4_number_86 ?_
      refine g_put (ci := 4) (wn := (w_X4_number cy a_this a_numbers a_o1 a_o1_signs w_beside w_been (upd v_numbers ((x2 * (5 : Int32)) + x3).toNatClampNeg v_squares) (v_squares + (1 : Int32)) v_door v_o1_signs v_o1_rows v_o1_columns v_o1_squares v_o1_hasDoor v_o1_inRow)) ha hw 0 3 rfl hi_X4_number_4 tyX4_ok nmX4 (by decide) (List.mem_of_getElem? (i := 1) rfl) rfl rfl rfl rfl (Nat.le_of_ble_eq_true rfl) rfl dX4_number_87 (fun H locs hw => ?_)
      refine lv_iinc (v := x3 + (1 : Int32)) (lv' := [(3, .int (x3 + (1 : Int32))), (0, .ref a_this), (1, .ref a_o1), (2, .int x2), (4, .int x4)]) hx hb dX4_number_90 hl (k := 3) rfl rfl (by decide) rfl (fun ls hl => ?_)
      refine lv_goto (tgt := 22) hx hb dX4_number_93 (by decide) ?_
      exact hE22 _ _ _ _ _ _ h hw (lv_sub hl [1, 2, 3, 0] rfl)
def wp_X4_number_22 (v_o1_signs : IA) (v_o1_rows : Int32) (v_o1_columns : Int32) (E12 : Int32 → IA → Int32 → Int32 → Prop) (K : IA → Int32 → Int32 → Prop) : Nat → Int32 → Int32 → IA → Int32 → Int32 → Prop
  | 0, _, _, _, _, _ => False
  | n + 1, x2, x3, v_numbers, v_squares, v_door => (v_o1_columns ≤ x3 → E12 (x2 + (1 : Int32)) v_numbers v_squares v_door) ∧ (¬ (v_o1_columns ≤ x3) → wp_X0_sign x2 x3 v_o1_signs v_o1_rows v_o1_columns (fun (r3 : Int32) => (r3 = (2 : Int32) → wp_X4_number_52 x2 r3 (fun (x3_11 : Int32) (v_numbers_12 : IA) (v_squares_13 : Int32) => wp_X4_number_22 v_o1_signs v_o1_rows v_o1_columns E12 K n x2 x3_11 v_numbers_12 v_squares_13 v_squares) K x3 v_numbers v_squares) ∧ (¬ (r3 = (2 : Int32)) → wp_X4_number_52 x2 r3 (fun (x3_8 : Int32) (v_numbers_9 : IA) (v_squares_10 : Int32) => wp_X4_number_22 v_o1_signs v_o1_rows v_o1_columns E12 K n x2 x3_8 v_numbers_9 v_squares_10 v_door) K x3 v_numbers v_squares)))
set_option maxHeartbeats 4000000 in
set_option maxRecDepth 100000 in
theorem pl_X4_number_22 {p : Program} {l : Launch} {e : Env} {s : State} {m : MethodId} {args : Array Value} {below : List Frame} {meth : Method} {c : Code} {A : Nat → Prop} {Q : State → Prop} {D : va_G} {cy : ClassId} {a_this a_numbers a_o1 a_o1_signs : Nat} {w_beside w_been : Value} {v_o1_signs : IA} {v_o1_rows : Int32} {v_o1_columns : Int32} {v_o1_squares : Int32} {v_o1_hasDoor : Int32} {v_o1_inRow : Int32} {K : IA → Int32 → Int32 → Prop} {E12 : Int32 → IA → Int32 → Int32 → Prop} (ha : am p s m args c cX4_number 5 RX4 wsX4_number D cy A) (hr : rtV p l e { frames := 2, cells := 0, slots := 0, locals := 151 } s m args below meth c 0 0 Q cX4_number D A (fun (u : IA × Int32 × Int32) => (w_X4_number cy a_this a_numbers a_o1 a_o1_signs w_beside w_been u.1 u.2.1 u.2.2 v_o1_signs v_o1_rows v_o1_columns v_o1_squares v_o1_hasDoor v_o1_inRow)) (fun (u : IA × Int32 × Int32) => K u.1 u.2.1 u.2.2)) (hE12 : ∀ (x2' : Int32) (v_numbers' : IA) (v_squares' : Int32) (v_door' : Int32) (H : Heap) (locs : List Loc) (ls : Array Slot), E12 x2' v_numbers' v_squares' v_door' → wd D A s.heap (w_X4_number cy a_this a_numbers a_o1 a_o1_signs w_beside w_been v_numbers' v_squares' v_door' v_o1_signs v_o1_rows v_o1_columns v_o1_squares v_o1_hasDoor v_o1_inRow) H locs → lv_has ls 5 [(0, .ref a_this), (1, .ref a_o1), (2, .int x2')] → W p l e { frames := 2, cells := 0, slots := 0, locals := 151 } s m args below meth c H locs 0 0 Q (F0 m 12 ls [])) : ∀ (n : Nat) (x2 : Int32) (x3 : Int32) (v_numbers : IA) (v_squares : Int32) (v_door : Int32) (H : Heap) (locs : List Loc) (ls : Array Slot), wp_X4_number_22 v_o1_signs v_o1_rows v_o1_columns E12 K n x2 x3 v_numbers v_squares v_door → wd D A s.heap (w_X4_number cy a_this a_numbers a_o1 a_o1_signs w_beside w_been v_numbers v_squares v_door v_o1_signs v_o1_rows v_o1_columns v_o1_squares v_o1_hasDoor v_o1_inRow) H locs → lv_has ls 5 [(0, .ref a_this), (1, .ref a_o1), (2, .int x2), (3, .int x3)] → W p l e { frames := 2, cells := 0, slots := 0, locals := 151 } s m args below meth c H locs 0 0 Q (F0 m 22 ls []) := by
  have hx := ha.1
  have hb := ha.2.1
  intro n
  induction n with
  | zero => exact fun _ _ _ _ _ _ _ _ h _ _ => False.elim h
  | succ n ih =>
    intro x2 x3 v_numbers v_squares v_door H locs ls h hw hl
    have h : (v_o1_columns ≤ x3 → E12 (x2 + (1 : Int32)) v_numbers v_squares v_door) ∧ (¬ (v_o1_columns ≤ x3) → wp_X0_sign x2 x3 v_o1_signs v_o1_rows v_o1_columns (fun (r3 : Int32) => (r3 = (2 : Int32) → wp_X4_number_52 x2 r3 (fun (x3_11 : Int32) (v_numbers_12 : IA) (v_squares_13 : Int32) => wp_X4_number_22 v_o1_signs v_o1_rows v_o1_columns E12 K n x2 x3_11 v_numbers_12 v_squares_13 v_squares) K x3 v_numbers v_squares) ∧ (¬ (r3 = (2 : Int32)) → wp_X4_number_52 x2 r3 (fun (x3_8 : Int32) (v_numbers_9 : IA) (v_squares_10 : Int32) => wp_X4_number_22 v_o1_signs v_o1_rows v_o1_columns E12 K n x2 x3_8 v_numbers_9 v_squares_10 v_door) K x3 v_numbers v_squares))) := h
    refine lv_iload_n hx hb dX4_number_22 rfl (lv_at hl 3 rfl) ?_
    refine lv_aload_n hx hb dX4_number_23 rfl (lv_at hl 1 rfl) ?_
    refine g_getN (ci := 0) ha hw 2 2 16 rfl hi_X4_number_0 (by decide) rfl rfl rfl dX4_number_24 ?_
    refine lv_icmp_ge (tgt := 96) hx hb dX4_number_27 (by decide) (fun c2 => ?_) (fun c2 => ?_)
    · have h := h.1 c2
      refine lv_iinc (v := x2 + (1 : Int32)) (lv' := [(2, .int (x2 + (1 : Int32))), (0, .ref a_this), (1, .ref a_o1), (3, .int x3)]) hx hb dX4_number_96 hl (k := 2) rfl rfl (by decide) rfl (fun ls hl => ?_)
      refine lv_goto (tgt := 12) hx hb dX4_number_99 (by decide) ?_
      exact hE12 _ _ _ _ _ _ _ h hw (lv_sub hl [1, 2, 0] rfl)
    · have h := h.2 c2
      refine lv_aload_n hx hb dX4_number_30 rfl (lv_at hl 1 rfl) ?_
      refine lv_iload_n hx hb dX4_number_31 rfl (lv_at hl 2 rfl) ?_
      refine lv_iload_n hx hb dX4_number_32 rfl (lv_at hl 3 rfl) ?_
      refine g_cvi (rm := { frames := 1, cells := 0, slots := 0, locals := 64 }) (wn := (fun (u : Unit) => (w_X4_number cy a_this a_numbers a_o1 a_o1_signs w_beside w_been v_numbers v_squares v_door v_o1_signs v_o1_rows v_o1_columns v_o1_squares v_o1_hasDoor v_o1_inRow))) (As := [.int x2, .int x3]) ha hw hl.1 (c_X0_sign (cy := cy)) (cwV 2 ha.2.2.2.2.1 gX4_number_X0_sign rfl rfl rfl hq_X0_sign ⟨Nat.le_of_ble_eq_true rfl, Nat.le_of_ble_eq_true rfl⟩) [2, 3] [0, 1] [0, 1, 2, 3] rfl rfl rfl rfl (by decide) rfl (fun _ => rfl) rfl rfl h rfl rfl (Nat.le_of_ble_eq_true rfl) dX4_number_33 ⟨Nat.le_refl _, Nat.le_refl _⟩ (fun r3 u H locs h hw => ?_)
      have hw : wd D A s.heap (w_X4_number cy a_this a_numbers a_o1 a_o1_signs w_beside w_been v_numbers v_squares v_door v_o1_signs v_o1_rows v_o1_columns v_o1_squares v_o1_hasDoor v_o1_inRow) H locs := hw
      try dsimp only at h
      refine lv_istore (lv' := [(4, .int r3), (0, .ref a_this), (1, .ref a_o1), (2, .int x2), (3, .int x3)]) hx hb dX4_number_36 hl (by decide) rfl (fun ls hl => ?_)
      refine lv_iload hx hb dX4_number_38 (lv_at hl 0 rfl) ?_
      refine lv_iconst (v := (2 : Int32)) hx hb dX4_number_40 (by decide) ?_
      refine lv_icmp_ne (tgt := 52) hx hb dX4_number_41 (by decide) (fun c4 => ?_) (fun c4 => ?_)
      · have h := h.2 c4
        refine pl_X4_number_52 ha hr ?_ h hw (lv_sub hl [1, 2, 3, 4, 0] rfl)
        · intro x3_8 v_numbers_9 v_squares_10 H locs ls h hw hl
          try dsimp only at h
          exact ih _ _ _ _ _ _ _ _ h hw (lv_sub hl [0, 1, 2, 3] rfl)
      · have h := h.1 c4
        refine lv_aload_n hx hb dX4_number_44 rfl (lv_at hl 1 rfl) ?_
        refine lv_aload_n hx hb dX4_number_45 rfl (lv_at hl 1 rfl) ?_
        refine g_get (ci := 4) ha hw 0 3 rfl hi_X4_number_4 (by decide) (List.mem_of_getElem? (i := 1) rfl) rfl rfl dX4_number_46 ?_
        refine g_put (ci := 4) (wn := (w_X4_number cy a_this a_numbers a_o1 a_o1_signs w_beside w_been v_numbers v_squares v_squares v_o1_signs v_o1_rows v_o1_columns v_o1_squares v_o1_hasDoor v_o1_inRow)) ha hw 0 4 rfl hi_X4_number_4 tyX4_ok nmX4 (by decide) (List.mem_of_getElem? (i := 2) rfl) rfl rfl rfl rfl (Nat.le_of_ble_eq_true rfl) rfl dX4_number_49 (fun H locs hw => ?_)
        refine pl_X4_number_52 ha hr ?_ h hw (lv_sub hl [1, 2, 3, 4, 0] rfl)
        · intro x3_11 v_numbers_12 v_squares_13 H locs ls h hw hl
          try dsimp only at h
          exact ih _ _ _ _ _ _ _ _ h hw (lv_sub hl [0, 1, 2, 3] rfl)
def wp_X4_number_12 (v_o1_signs : IA) (v_o1_rows : Int32) (v_o1_columns : Int32) (K : IA → Int32 → Int32 → Prop) : Nat → Int32 → IA → Int32 → Int32 → Prop
  | 0, _, _, _, _ => False
  | n + 1, x2, v_numbers, v_squares, v_door => (v_o1_rows ≤ x2 → K v_numbers v_squares v_door) ∧ (¬ (v_o1_rows ≤ x2) → ∃ n18 : Nat, wp_X4_number_22 v_o1_signs v_o1_rows v_o1_columns (fun (x2_14 : Int32) (v_numbers_15 : IA) (v_squares_16 : Int32) (v_door_17 : Int32) => wp_X4_number_12 v_o1_signs v_o1_rows v_o1_columns K n x2_14 v_numbers_15 v_squares_16 v_door_17) K n18 x2 (0 : Int32) v_numbers v_squares v_door)
set_option maxHeartbeats 4000000 in
set_option maxRecDepth 100000 in
theorem pl_X4_number_12 {p : Program} {l : Launch} {e : Env} {s : State} {m : MethodId} {args : Array Value} {below : List Frame} {meth : Method} {c : Code} {A : Nat → Prop} {Q : State → Prop} {D : va_G} {cy : ClassId} {a_this a_numbers a_o1 a_o1_signs : Nat} {w_beside w_been : Value} {v_o1_signs : IA} {v_o1_rows : Int32} {v_o1_columns : Int32} {v_o1_squares : Int32} {v_o1_hasDoor : Int32} {v_o1_inRow : Int32} {K : IA → Int32 → Int32 → Prop} (ha : am p s m args c cX4_number 5 RX4 wsX4_number D cy A) (hr : rtV p l e { frames := 2, cells := 0, slots := 0, locals := 151 } s m args below meth c 0 0 Q cX4_number D A (fun (u : IA × Int32 × Int32) => (w_X4_number cy a_this a_numbers a_o1 a_o1_signs w_beside w_been u.1 u.2.1 u.2.2 v_o1_signs v_o1_rows v_o1_columns v_o1_squares v_o1_hasDoor v_o1_inRow)) (fun (u : IA × Int32 × Int32) => K u.1 u.2.1 u.2.2)) : ∀ (n : Nat) (x2 : Int32) (v_numbers : IA) (v_squares : Int32) (v_door : Int32) (H : Heap) (locs : List Loc) (ls : Array Slot), wp_X4_number_12 v_o1_signs v_o1_rows v_o1_columns K n x2 v_numbers v_squares v_door → wd D A s.heap (w_X4_number cy a_this a_numbers a_o1 a_o1_signs w_beside w_been v_numbers v_squares v_door v_o1_signs v_o1_rows v_o1_columns v_o1_squares v_o1_hasDoor v_o1_inRow) H locs → lv_has ls 5 [(0, .ref a_this), (1, .ref a_o1), (2, .int x2)] → W p l e { frames := 2, cells := 0, slots := 0, locals := 151 } s m args below meth c H locs 0 0 Q (F0 m 12 ls []) := by
  have hx := ha.1
  have hb := ha.2.1
  intro n
  induction n with
  | zero => exact fun _ _ _ _ _ _ _ h _ _ => False.elim h
  | succ n ih =>
    intro x2 v_numbers v_squares v_door H locs ls h hw hl
    have h : (v_o1_rows ≤ x2 → K v_numbers v_squares v_door) ∧ (¬ (v_o1_rows ≤ x2) → ∃ n18 : Nat, wp_X4_number_22 v_o1_signs v_o1_rows v_o1_columns (fun (x2_14 : Int32) (v_numbers_15 : IA) (v_squares_16 : Int32) (v_door_17 : Int32) => wp_X4_number_12 v_o1_signs v_o1_rows v_o1_columns K n x2_14 v_numbers_15 v_squares_16 v_door_17) K n18 x2 (0 : Int32) v_numbers v_squares v_door) := h
    refine lv_iload_n hx hb dX4_number_12 rfl (lv_at hl 2 rfl) ?_
    refine lv_aload_n hx hb dX4_number_13 rfl (lv_at hl 1 rfl) ?_
    refine g_getN (ci := 0) ha hw 2 1 14 rfl hi_X4_number_0 (by decide) rfl rfl rfl dX4_number_14 ?_
    refine lv_icmp_ge (tgt := 102) hx hb dX4_number_17 (by decide) (fun c1 => ?_) (fun c1 => ?_)
    · have h := h.1 c1
      exact hr _ (v_numbers, v_squares, v_door) _ _ _ dX4_number_102 h hw
    · have h := h.2 c1
      refine lv_iconst (v := (0 : Int32)) hx hb dX4_number_20 (by decide) ?_
      refine lv_istore_n (lv' := [(3, .int (0 : Int32)), (0, .ref a_this), (1, .ref a_o1), (2, .int x2)]) hx hb dX4_number_21 rfl hl (by decide) rfl (fun ls hl => ?_)
      obtain ⟨n9, h⟩ := h
      refine pl_X4_number_22 ha hr ?_ n9 _ _ _ _ _ _ _ _ h hw (lv_sub hl [1, 2, 3, 0] rfl)
      · intro x2_14 v_numbers_15 v_squares_16 v_door_17 H locs ls h hw hl
        try dsimp only at h
        exact ih _ _ _ _ _ _ _ h hw (lv_sub hl [0, 1, 2] rfl)
def wp_X4_number (v_numbers : IA) (v_squares : Int32) (v_door : Int32) (v_o1_signs : IA) (v_o1_rows : Int32) (v_o1_columns : Int32) (K : IA → Int32 → Int32 → Prop) : Prop := ∃ n19 : Nat, wp_X4_number_12 v_o1_signs v_o1_rows v_o1_columns K n19 (0 : Int32) v_numbers (0 : Int32) (0 : Int32)
set_option maxHeartbeats 4000000 in
set_option maxRecDepth 100000 in
theorem c_X4_number {l : Launch} {D : va_G} {cy : ClassId} {a_this a_numbers a_o1 a_o1_signs : Nat} {w_beside w_been : Value} {v_numbers : IA} {v_squares : Int32} {v_door : Int32} {v_o1_signs : IA} {v_o1_rows : Int32} {v_o1_columns : Int32} {v_o1_squares : Int32} {v_o1_hasDoor : Int32} {v_o1_inRow : Int32} {K : IA → Int32 → Int32 → Prop} : CtV l yX4_number wsX4_number { frames := 2, cells := 0, slots := 0, locals := 151 } 0 0 D cy [.ref a_this, .ref a_o1] (w_X4_number cy a_this a_numbers a_o1 a_o1_signs w_beside w_been v_numbers v_squares v_door v_o1_signs v_o1_rows v_o1_columns v_o1_squares v_o1_hasDoor v_o1_inRow) (wp_X4_number v_numbers v_squares v_door v_o1_signs v_o1_rows v_o1_columns K) (fun (u : IA × Int32 × Int32) => (w_X4_number cy a_this a_numbers a_o1 a_o1_signs w_beside w_been u.1 u.2.1 u.2.2 v_o1_signs v_o1_rows v_o1_columns v_o1_squares v_o1_hasDoor v_o1_inRow)) (fun (u : IA × Int32 × Int32) => K u.1 u.2.1 u.2.2) := by
  refine CtV.mk (cc := cX4_number) (nL := 5) (by decide) rfl (Nat.le_of_ble_eq_true rfl) ?_
  intro p e s m args below meth c A Q ha hr _ h ls hl hw
  have ha : am p s m args c cX4_number 5 RX4 wsX4_number D cy A := ha
  have hx := ha.1
  have hb := ha.2.1
  have hl : lv_has ls 5 [(0, .ref a_this), (1, .ref a_o1)] := hl
  have h : ∃ n19 : Nat, wp_X4_number_12 v_o1_signs v_o1_rows v_o1_columns K n19 (0 : Int32) v_numbers (0 : Int32) (0 : Int32) := h
  refine lv_aload_n hx hb dX4_number_0 rfl (lv_at hl 0 rfl) ?_
  refine lv_iconst (v := (0 : Int32)) hx hb dX4_number_1 (by decide) ?_
  refine g_put (ci := 4) (wn := (w_X4_number cy a_this a_numbers a_o1 a_o1_signs w_beside w_been v_numbers (0 : Int32) v_door v_o1_signs v_o1_rows v_o1_columns v_o1_squares v_o1_hasDoor v_o1_inRow)) ha hw 0 3 rfl hi_X4_number_4 tyX4_ok nmX4 (by decide) (List.mem_of_getElem? (i := 1) rfl) rfl rfl rfl rfl (Nat.le_of_ble_eq_true rfl) rfl dX4_number_2 (fun H locs hw => ?_)
  refine lv_aload_n hx hb dX4_number_5 rfl (lv_at hl 0 rfl) ?_
  refine lv_iconst (v := (0 : Int32)) hx hb dX4_number_6 (by decide) ?_
  refine g_put (ci := 4) (wn := (w_X4_number cy a_this a_numbers a_o1 a_o1_signs w_beside w_been v_numbers (0 : Int32) (0 : Int32) v_o1_signs v_o1_rows v_o1_columns v_o1_squares v_o1_hasDoor v_o1_inRow)) ha hw 0 4 rfl hi_X4_number_4 tyX4_ok nmX4 (by decide) (List.mem_of_getElem? (i := 2) rfl) rfl rfl rfl rfl (Nat.le_of_ble_eq_true rfl) rfl dX4_number_7 (fun H locs hw => ?_)
  refine lv_iconst (v := (0 : Int32)) hx hb dX4_number_10 (by decide) ?_
  refine lv_istore_n (lv' := [(2, .int (0 : Int32)), (0, .ref a_this), (1, .ref a_o1)]) hx hb dX4_number_11 rfl hl (by decide) rfl (fun ls hl => ?_)
  obtain ⟨n9, h⟩ := h
  refine pl_X4_number_12 ha hr n9 _ _ _ _ _ _ _ h hw (lv_sub hl [1, 2, 0] rfl)
theorem hq_X4_joinTwo : yX4_joinTwo.cls = RX4 ∧ yX4_joinTwo.cls ≠ "java/lang/invoke/MethodHandle" ∧ yX4_joinTwo.cls ≠ "java/lang/invoke/VarHandle" ∧ (parseMethodDescriptor yX4_joinTwo.desc).map (fun d => d.parameters.length) = some 2 := by decide +kernel
def w_X4_joinTwo (cy : ClassId) (a_this a_beside : Nat) (w_numbers w_been : Value) (v_beside : IA) (v_squares : Int32) (v_door : Int32) : va_W := [(a_this, .inr (4, [w_numbers, .ref a_beside, w_been, .int v_squares, .int v_door])), (a_beside, .inl (cy, 10, .inl v_beside))]
theorem hi_X4_joinTwo_4 : ∀ w ∈ u_ws RX4 TX4 5, w ∈ wsX4_joinTwo := fun _ h => List.mem_cons_of_mem _ (List.mem_append_right _ h)
def wp_X4_joinTwo (x1 : Int32) (x2 : Int32) (v_beside : IA) (K : IA → Prop) : Prop := vp_in x1 10 ∧ (vp_in x2 10 ∧ (K (upd (upd v_beside x1.toNatClampNeg ((v_beside x1.toNatClampNeg) ||| ((1 : Int32) <<< (x2 &&& 31)))) x2.toNatClampNeg (((upd v_beside x1.toNatClampNeg ((v_beside x1.toNatClampNeg) ||| ((1 : Int32) <<< (x2 &&& 31)))) x2.toNatClampNeg) ||| ((1 : Int32) <<< (x1 &&& 31))))))
set_option maxHeartbeats 4000000 in
set_option maxRecDepth 100000 in
theorem c_X4_joinTwo {l : Launch} {D : va_G} {cy : ClassId} {a_this a_beside : Nat} {w_numbers w_been : Value} {v_beside : IA} {v_squares : Int32} {v_door : Int32} {x1 : Int32} {x2 : Int32} {K : IA → Prop} : CtV l yX4_joinTwo wsX4_joinTwo { frames := 1, cells := 0, slots := 0, locals := 64 } 0 0 D cy [.ref a_this, .int x1, .int x2] (w_X4_joinTwo cy a_this a_beside w_numbers w_been v_beside v_squares v_door) (wp_X4_joinTwo x1 x2 v_beside K) (fun (u : IA) => (w_X4_joinTwo cy a_this a_beside w_numbers w_been u v_squares v_door)) (fun (u : IA) => K u) := by
  refine CtV.mk (cc := cX4_joinTwo) (nL := 3) (by decide) rfl (Nat.le_of_ble_eq_true rfl) ?_
  intro p e s m args below meth c A Q ha hr _ h ls hl hw
  have ha : am p s m args c cX4_joinTwo 3 RX4 wsX4_joinTwo D cy A := ha
  have hx := ha.1
  have hb := ha.2.1
  have hl : lv_has ls 3 [(0, .ref a_this), (1, .int x1), (2, .int x2)] := hl
  have h : vp_in x1 10 ∧ (vp_in x2 10 ∧ (K (upd (upd v_beside x1.toNatClampNeg ((v_beside x1.toNatClampNeg) ||| ((1 : Int32) <<< (x2 &&& 31)))) x2.toNatClampNeg (((upd v_beside x1.toNatClampNeg ((v_beside x1.toNatClampNeg) ||| ((1 : Int32) <<< (x2 &&& 31)))) x2.toNatClampNeg) ||| ((1 : Int32) <<< (x1 &&& 31)))))) := h
  refine lv_aload_n hx hb dX4_joinTwo_0 rfl (lv_at hl 0 rfl) ?_
  refine g_get (ci := 4) ha hw 0 1 rfl hi_X4_joinTwo_4 (by decide) (List.mem_of_getElem? (i := 1) rfl) rfl rfl dX4_joinTwo_1 ?_
  refine lv_iload_n hx hb dX4_joinTwo_4 rfl (lv_at hl 1 rfl) ?_
  refine lv_dup2_11 hx hb dX4_joinTwo_5 rfl rfl ?_
  obtain ⟨z1, h⟩ := h
  refine g_ald ha hw 1 rfl z1 dX4_joinTwo_6 ?_
  refine lv_iconst (v := (1 : Int32)) hx hb dX4_joinTwo_7 (by decide) ?_
  refine lv_iload_n hx hb dX4_joinTwo_8 rfl (lv_at hl 2 rfl) ?_
  refine lv_ishl hx hb dX4_joinTwo_9 ?_
  refine lv_ior hx hb dX4_joinTwo_10 ?_
  refine g_ast (wn := (w_X4_joinTwo cy a_this a_beside w_numbers w_been (upd v_beside x1.toNatClampNeg ((v_beside x1.toNatClampNeg) ||| ((1 : Int32) <<< (x2 &&& 31)))) v_squares v_door)) ha hw 1 rfl z1 rfl dX4_joinTwo_11 (fun H locs hw => ?_)
  refine lv_aload_n hx hb dX4_joinTwo_12 rfl (lv_at hl 0 rfl) ?_
  refine g_get (ci := 4) ha hw 0 1 rfl hi_X4_joinTwo_4 (by decide) (List.mem_of_getElem? (i := 1) rfl) rfl rfl dX4_joinTwo_13 ?_
  refine lv_iload_n hx hb dX4_joinTwo_16 rfl (lv_at hl 2 rfl) ?_
  refine lv_dup2_11 hx hb dX4_joinTwo_17 rfl rfl ?_
  obtain ⟨z2, h⟩ := h
  refine g_ald ha hw 1 rfl z2 dX4_joinTwo_18 ?_
  refine lv_iconst (v := (1 : Int32)) hx hb dX4_joinTwo_19 (by decide) ?_
  refine lv_iload_n hx hb dX4_joinTwo_20 rfl (lv_at hl 1 rfl) ?_
  refine lv_ishl hx hb dX4_joinTwo_21 ?_
  refine lv_ior hx hb dX4_joinTwo_22 ?_
  refine g_ast (wn := (w_X4_joinTwo cy a_this a_beside w_numbers w_been (upd (upd v_beside x1.toNatClampNeg ((v_beside x1.toNatClampNeg) ||| ((1 : Int32) <<< (x2 &&& 31)))) x2.toNatClampNeg (((upd v_beside x1.toNatClampNeg ((v_beside x1.toNatClampNeg) ||| ((1 : Int32) <<< (x2 &&& 31)))) x2.toNatClampNeg) ||| ((1 : Int32) <<< (x1 &&& 31)))) v_squares v_door)) ha hw 1 rfl z2 rfl dX4_joinTwo_23 (fun H locs hw => ?_)
  exact hr _ (upd (upd v_beside x1.toNatClampNeg ((v_beside x1.toNatClampNeg) ||| ((1 : Int32) <<< (x2 &&& 31)))) x2.toNatClampNeg (((upd v_beside x1.toNatClampNeg ((v_beside x1.toNatClampNeg) ||| ((1 : Int32) <<< (x2 &&& 31)))) x2.toNatClampNeg) ||| ((1 : Int32) <<< (x1 &&& 31)))) _ _ _ dX4_joinTwo_24 h hw
theorem hq_X4_join : yX4_join.cls = RX4 ∧ yX4_join.cls ≠ "java/lang/invoke/MethodHandle" ∧ yX4_join.cls ≠ "java/lang/invoke/VarHandle" ∧ (parseMethodDescriptor yX4_join.desc).map (fun d => d.parameters.length) = some 1 := by decide +kernel
def w_X4_join (cy : ClassId) (a_this a_numbers a_beside a_o1 a_o1_signs : Nat) (w_been : Value) (v_numbers : IA) (v_beside : IA) (v_squares : Int32) (v_door : Int32) (v_o1_signs : IA) (v_o1_rows : Int32) (v_o1_columns : Int32) (v_o1_squares : Int32) (v_o1_hasDoor : Int32) (v_o1_inRow : Int32) : va_W := [(a_this, .inr (4, [.ref a_numbers, .ref a_beside, w_been, .int v_squares, .int v_door])), (a_numbers, .inl (cy, 25, .inl v_numbers)), (a_beside, .inl (cy, 10, .inl v_beside)), (a_o1, .inr (0, [.ref a_o1_signs, .int v_o1_rows, .int v_o1_columns, .int v_o1_squares, .int v_o1_hasDoor, .int v_o1_inRow])), (a_o1_signs, .inl (cy, 25, .inl v_o1_signs))]
theorem hi_X4_join_0 : ∀ w ∈ u_ws RX0 TX0 6, w ∈ wsX4_join := fun _ h => List.mem_cons_of_mem _ (List.mem_append_right _ h)
theorem hi_X4_join_4 : ∀ w ∈ u_ws RX4 TX4 5, w ∈ wsX4_join := fun _ h => List.mem_cons_of_mem _ (List.mem_append_left _ (List.mem_append_right _ h))
def wp_X4_join_75 (x2 : Int32) (x4 : Int32) (v_numbers : IA) (v_o1_signs : IA) (v_o1_rows : Int32) (v_o1_columns : Int32) (E20 : Int32 → IA → Prop) (K : IA → Prop) (x3 : Int32) (v_beside : IA) : Prop := wp_X0_sign (x2 + (1 : Int32)) x3 v_o1_signs v_o1_rows v_o1_columns (fun (r9 : Int32) => (r9 = 0 → E20 (x3 + (1 : Int32)) v_beside) ∧ (¬ (r9 = 0) → vp_in x4 25 ∧ (vp_in (x4 + (5 : Int32)) 25 ∧ (wp_X4_joinTwo (v_numbers x4.toNatClampNeg) (v_numbers (x4 + (5 : Int32)).toNatClampNeg) v_beside (fun (v_beside_13 : IA) => E20 (x3 + (1 : Int32)) v_beside_13)))))
set_option maxHeartbeats 4000000 in
set_option maxRecDepth 100000 in
theorem pl_X4_join_75 {p : Program} {l : Launch} {e : Env} {s : State} {m : MethodId} {args : Array Value} {below : List Frame} {meth : Method} {c : Code} {A : Nat → Prop} {Q : State → Prop} {D : va_G} {cy : ClassId} {a_this a_numbers a_beside a_o1 a_o1_signs : Nat} {w_been : Value} {v_numbers : IA} {v_squares : Int32} {v_door : Int32} {v_o1_signs : IA} {v_o1_rows : Int32} {v_o1_columns : Int32} {v_o1_squares : Int32} {v_o1_hasDoor : Int32} {v_o1_inRow : Int32} {x2 : Int32} {x4 : Int32} {K : IA → Prop} {E20 : Int32 → IA → Prop} (ha : am p s m args c cX4_join 5 RX4 wsX4_join D cy A) (hr : rtV p l e { frames := 2, cells := 0, slots := 0, locals := 151 } s m args below meth c 0 0 Q cX4_join D A (fun (u : IA) => (w_X4_join cy a_this a_numbers a_beside a_o1 a_o1_signs w_been v_numbers u v_squares v_door v_o1_signs v_o1_rows v_o1_columns v_o1_squares v_o1_hasDoor v_o1_inRow)) (fun (u : IA) => K u)) (hE20 : ∀ (x3' : Int32) (v_beside' : IA) (H : Heap) (locs : List Loc) (ls : Array Slot), E20 x3' v_beside' → wd D A s.heap (w_X4_join cy a_this a_numbers a_beside a_o1 a_o1_signs w_been v_numbers v_beside' v_squares v_door v_o1_signs v_o1_rows v_o1_columns v_o1_squares v_o1_hasDoor v_o1_inRow) H locs → lv_has ls 5 [(0, .ref a_this), (1, .ref a_o1), (2, .int x2), (3, .int x3')] → W p l e { frames := 2, cells := 0, slots := 0, locals := 151 } s m args below meth c H locs 0 0 Q (F0 m 20 ls [])) {x3 : Int32} {v_beside : IA} {H : Heap} {locs : List Loc} {ls : Array Slot} : wp_X4_join_75 x2 x4 v_numbers v_o1_signs v_o1_rows v_o1_columns E20 K x3 v_beside → wd D A s.heap (w_X4_join cy a_this a_numbers a_beside a_o1 a_o1_signs w_been v_numbers v_beside v_squares v_door v_o1_signs v_o1_rows v_o1_columns v_o1_squares v_o1_hasDoor v_o1_inRow) H locs → lv_has ls 5 [(0, .ref a_this), (1, .ref a_o1), (2, .int x2), (3, .int x3), (4, .int x4)] → W p l e { frames := 2, cells := 0, slots := 0, locals := 151 } s m args below meth c H locs 0 0 Q (F0 m 75 ls []) := by
  have hx := ha.1
  have hb := ha.2.1
  intro h hw hl
  have h : wp_X0_sign (x2 + (1 : Int32)) x3 v_o1_signs v_o1_rows v_o1_columns (fun (r9 : Int32) => (r9 = 0 → E20 (x3 + (1 : Int32)) v_beside) ∧ (¬ (r9 = 0) → vp_in x4 25 ∧ (vp_in (x4 + (5 : Int32)) 25 ∧ (wp_X4_joinTwo (v_numbers x4.toNatClampNeg) (v_numbers (x4 + (5 : Int32)).toNatClampNeg) v_beside (fun (v_beside_13 : IA) => E20 (x3 + (1 : Int32)) v_beside_13))))) := h
  refine lv_aload_n hx hb dX4_join_75 rfl (lv_at hl 1 rfl) ?_
  refine lv_iload_n hx hb dX4_join_76 rfl (lv_at hl 2 rfl) ?_
  refine lv_iconst (v := (1 : Int32)) hx hb dX4_join_77 (by decide) ?_
  refine lv_iadd hx hb dX4_join_78 ?_
  refine lv_iload_n hx hb dX4_join_79 rfl (lv_at hl 3 rfl) ?_
  refine g_cvi (rm := { frames := 1, cells := 0, slots := 0, locals := 64 }) (wn := (fun (u : Unit) => (w_X4_join cy a_this a_numbers a_beside a_o1 a_o1_signs w_been v_numbers v_beside v_squares v_door v_o1_signs v_o1_rows v_o1_columns v_o1_squares v_o1_hasDoor v_o1_inRow))) (As := [.int (x2 + (1 : Int32)), .int x3]) ha hw hl.1 (c_X0_sign (cy := cy)) (cwV 2 ha.2.2.2.2.1 gX4_join_X0_sign rfl rfl rfl hq_X0_sign ⟨Nat.le_of_ble_eq_true rfl, Nat.le_of_ble_eq_true rfl⟩) [3, 4] [0, 1, 2] [0, 1, 2, 3, 4] rfl rfl rfl rfl (by decide) rfl (fun _ => rfl) rfl rfl h rfl rfl (Nat.le_of_ble_eq_true rfl) dX4_join_80 ⟨Nat.le_refl _, Nat.le_refl _⟩ (fun r9 u H locs h hw => ?_)
  have hw : wd D A s.heap (w_X4_join cy a_this a_numbers a_beside a_o1 a_o1_signs w_been v_numbers v_beside v_squares v_door v_o1_signs v_o1_rows v_o1_columns v_o1_squares v_o1_hasDoor v_o1_inRow) H locs := hw
  try dsimp only at h
  refine lv_if_eq (tgt := 106) hx hb dX4_join_83 (by decide) (fun c10 => ?_) (fun c10 => ?_)
  · have h := h.1 c10
    refine lv_iinc (v := x3 + (1 : Int32)) (lv' := [(3, .int (x3 + (1 : Int32))), (0, .ref a_this), (1, .ref a_o1), (2, .int x2), (4, .int x4)]) hx hb dX4_join_106 hl (k := 3) rfl rfl (by decide) rfl (fun ls hl => ?_)
    refine lv_goto (tgt := 20) hx hb dX4_join_109 (by decide) ?_
    exact hE20 _ _ _ _ _ h hw (lv_sub hl [1, 2, 3, 0] rfl)
  · have h := h.2 c10
    refine lv_aload_n hx hb dX4_join_86 rfl (lv_at hl 0 rfl) ?_
    refine lv_aload_n hx hb dX4_join_87 rfl (lv_at hl 0 rfl) ?_
    refine g_get (ci := 4) ha hw 0 0 rfl hi_X4_join_4 (by decide) (List.mem_of_getElem? (i := 2) rfl) rfl rfl dX4_join_88 ?_
    refine lv_iload hx hb dX4_join_91 (lv_at hl 4 rfl) ?_
    obtain ⟨z11, h⟩ := h
    refine g_ald ha hw 1 rfl z11 dX4_join_93 ?_
    refine lv_aload_n hx hb dX4_join_94 rfl (lv_at hl 0 rfl) ?_
    refine g_get (ci := 4) ha hw 0 0 rfl hi_X4_join_4 (by decide) (List.mem_of_getElem? (i := 2) rfl) rfl rfl dX4_join_95 ?_
    refine lv_iload hx hb dX4_join_98 (lv_at hl 4 rfl) ?_
    refine lv_iconst (v := (5 : Int32)) hx hb dX4_join_100 (by decide) ?_
    refine lv_iadd hx hb dX4_join_101 ?_
    obtain ⟨z12, h⟩ := h
    refine g_ald ha hw 1 rfl z12 dX4_join_102 ?_
    refine g_cvv (rm := { frames := 1, cells := 0, slots := 0, locals := 64 }) (wn := (fun (u : IA) => (w_X4_join cy a_this a_numbers a_beside a_o1 a_o1_signs w_been v_numbers u v_squares v_door v_o1_signs v_o1_rows v_o1_columns v_o1_squares v_o1_hasDoor v_o1_inRow))) (As := [.int (v_numbers x4.toNatClampNeg), .int (v_numbers (x4 + (5 : Int32)).toNatClampNeg)]) ha hw hl.1 (c_X4_joinTwo (cy := cy)) (cwV 2 ha.2.2.2.2.1 gX4_join_X4_joinTwo rfl rfl rfl hq_X4_joinTwo ⟨Nat.le_of_ble_eq_true rfl, Nat.le_of_ble_eq_true rfl⟩) [0, 2] [1, 3, 4] [3, 0, 4, 1, 2] rfl rfl rfl rfl (by decide) rfl (fun _ => rfl) rfl rfl h rfl rfl (Nat.le_of_ble_eq_true rfl) dX4_join_103 ⟨Nat.le_refl _, Nat.le_refl _⟩ (fun u H locs h hw => ?_)
    obtain ⟨v_beside_13, rfl⟩ : ∃ z, z = u := ⟨_, rfl⟩
    have hw : wd D A s.heap (w_X4_join cy a_this a_numbers a_beside a_o1 a_o1_signs w_been v_numbers v_beside_13 v_squares v_door v_o1_signs v_o1_rows v_o1_columns v_o1_squares v_o1_hasDoor v_o1_inRow) H locs := hw
    try dsimp only at h
    refine lv_iinc (v := x3 + (1 : Int32)) (lv' := [(3, .int (x3 + (1 : Int32))), (0, .ref a_this), (1, .ref a_o1), (2, .int x2), (4, .int x4)]) hx hb dX4_join_106 hl (k := 3) rfl rfl (by decide) rfl (fun ls hl => ?_)
    refine lv_goto (tgt := 20) hx hb dX4_join_109 (by decide) ?_
    exact hE20 _ _ _ _ _ h hw (lv_sub hl [1, 2, 3, 0] rfl)
def wp_X4_join_20 (v_numbers : IA) (v_o1_signs : IA) (v_o1_rows : Int32) (v_o1_columns : Int32) (E10 : Int32 → IA → Prop) (K : IA → Prop) : Nat → Int32 → Int32 → IA → Prop
  | 0, _, _, _ => False
  | n + 1, x2, x3, v_beside => (v_o1_columns ≤ x3 → E10 (x2 + (1 : Int32)) v_beside) ∧ (¬ (v_o1_columns ≤ x3) → wp_X0_sign x2 x3 v_o1_signs v_o1_rows v_o1_columns (fun (r4 : Int32) => (r4 = 0 → wp_X4_join_20 v_numbers v_o1_signs v_o1_rows v_o1_columns E10 K n x2 (x3 + (1 : Int32)) v_beside) ∧ (¬ (r4 = 0) → ∀ x4_6 : Int32, x4_6 = (x2 * (5 : Int32)) + x3 → wp_X0_sign x2 (x3 + (1 : Int32)) v_o1_signs v_o1_rows v_o1_columns (fun (r7 : Int32) => (r7 = 0 → wp_X4_join_75 x2 x4_6 v_numbers v_o1_signs v_o1_rows v_o1_columns (fun (x3_14 : Int32) (v_beside_15 : IA) => wp_X4_join_20 v_numbers v_o1_signs v_o1_rows v_o1_columns E10 K n x2 x3_14 v_beside_15) K x3 v_beside) ∧ (¬ (r7 = 0) → vp_in x4_6 25 ∧ (vp_in (x4_6 + (1 : Int32)) 25 ∧ (wp_X4_joinTwo (v_numbers x4_6.toNatClampNeg) (v_numbers (x4_6 + (1 : Int32)).toNatClampNeg) v_beside (fun (v_beside_18 : IA) => wp_X4_join_75 x2 x4_6 v_numbers v_o1_signs v_o1_rows v_o1_columns (fun (x3_19 : Int32) (v_beside_20 : IA) => wp_X4_join_20 v_numbers v_o1_signs v_o1_rows v_o1_columns E10 K n x2 x3_19 v_beside_20) K x3 v_beside_18))))))))
set_option maxHeartbeats 4000000 in
set_option maxRecDepth 100000 in
theorem pl_X4_join_20 {p : Program} {l : Launch} {e : Env} {s : State} {m : MethodId} {args : Array Value} {below : List Frame} {meth : Method} {c : Code} {A : Nat → Prop} {Q : State → Prop} {D : va_G} {cy : ClassId} {a_this a_numbers a_beside a_o1 a_o1_signs : Nat} {w_been : Value} {v_numbers : IA} {v_squares : Int32} {v_door : Int32} {v_o1_signs : IA} {v_o1_rows : Int32} {v_o1_columns : Int32} {v_o1_squares : Int32} {v_o1_hasDoor : Int32} {v_o1_inRow : Int32} {K : IA → Prop} {E10 : Int32 → IA → Prop} (ha : am p s m args c cX4_join 5 RX4 wsX4_join D cy A) (hr : rtV p l e { frames := 2, cells := 0, slots := 0, locals := 151 } s m args below meth c 0 0 Q cX4_join D A (fun (u : IA) => (w_X4_join cy a_this a_numbers a_beside a_o1 a_o1_signs w_been v_numbers u v_squares v_door v_o1_signs v_o1_rows v_o1_columns v_o1_squares v_o1_hasDoor v_o1_inRow)) (fun (u : IA) => K u)) (hE10 : ∀ (x2' : Int32) (v_beside' : IA) (H : Heap) (locs : List Loc) (ls : Array Slot), E10 x2' v_beside' → wd D A s.heap (w_X4_join cy a_this a_numbers a_beside a_o1 a_o1_signs w_been v_numbers v_beside' v_squares v_door v_o1_signs v_o1_rows v_o1_columns v_o1_squares v_o1_hasDoor v_o1_inRow) H locs → lv_has ls 5 [(0, .ref a_this), (1, .ref a_o1), (2, .int x2')] → W p l e { frames := 2, cells := 0, slots := 0, locals := 151 } s m args below meth c H locs 0 0 Q (F0 m 10 ls [])) : ∀ (n : Nat) (x2 : Int32) (x3 : Int32) (v_beside : IA) (H : Heap) (locs : List Loc) (ls : Array Slot), wp_X4_join_20 v_numbers v_o1_signs v_o1_rows v_o1_columns E10 K n x2 x3 v_beside → wd D A s.heap (w_X4_join cy a_this a_numbers a_beside a_o1 a_o1_signs w_been v_numbers v_beside v_squares v_door v_o1_signs v_o1_rows v_o1_columns v_o1_squares v_o1_hasDoor v_o1_inRow) H locs → lv_has ls 5 [(0, .ref a_this), (1, .ref a_o1), (2, .int x2), (3, .int x3)] → W p l e { frames := 2, cells := 0, slots := 0, locals := 151 } s m args below meth c H locs 0 0 Q (F0 m 20 ls []) := by
  have hx := ha.1
  have hb := ha.2.1
  intro n
  induction n with
  | zero => exact fun _ _ _ _ _ _ h _ _ => False.elim h
  | succ n ih =>
    intro x2 x3 v_beside H locs ls h hw hl
    have h : (v_o1_columns ≤ x3 → E10 (x2 + (1 : Int32)) v_beside) ∧ (¬ (v_o1_columns ≤ x3) → wp_X0_sign x2 x3 v_o1_signs v_o1_rows v_o1_columns (fun (r4 : Int32) => (r4 = 0 → wp_X4_join_20 v_numbers v_o1_signs v_o1_rows v_o1_columns E10 K n x2 (x3 + (1 : Int32)) v_beside) ∧ (¬ (r4 = 0) → ∀ x4_6 : Int32, x4_6 = (x2 * (5 : Int32)) + x3 → wp_X0_sign x2 (x3 + (1 : Int32)) v_o1_signs v_o1_rows v_o1_columns (fun (r7 : Int32) => (r7 = 0 → wp_X4_join_75 x2 x4_6 v_numbers v_o1_signs v_o1_rows v_o1_columns (fun (x3_14 : Int32) (v_beside_15 : IA) => wp_X4_join_20 v_numbers v_o1_signs v_o1_rows v_o1_columns E10 K n x2 x3_14 v_beside_15) K x3 v_beside) ∧ (¬ (r7 = 0) → vp_in x4_6 25 ∧ (vp_in (x4_6 + (1 : Int32)) 25 ∧ (wp_X4_joinTwo (v_numbers x4_6.toNatClampNeg) (v_numbers (x4_6 + (1 : Int32)).toNatClampNeg) v_beside (fun (v_beside_18 : IA) => wp_X4_join_75 x2 x4_6 v_numbers v_o1_signs v_o1_rows v_o1_columns (fun (x3_19 : Int32) (v_beside_20 : IA) => wp_X4_join_20 v_numbers v_o1_signs v_o1_rows v_o1_columns E10 K n x2 x3_19 v_beside_20) K x3 v_beside_18)))))))) := h
    refine lv_iload_n hx hb dX4_join_20 rfl (lv_at hl 3 rfl) ?_
    refine lv_aload_n hx hb dX4_join_21 rfl (lv_at hl 1 rfl) ?_
    refine g_getN (ci := 0) ha hw 3 2 16 rfl hi_X4_join_0 (by decide) rfl rfl rfl dX4_join_22 ?_
    refine lv_icmp_ge (tgt := 112) hx hb dX4_join_25 (by decide) (fun c3 => ?_) (fun c3 => ?_)
    · have h := h.1 c3
      refine lv_iinc (v := x2 + (1 : Int32)) (lv' := [(2, .int (x2 + (1 : Int32))), (0, .ref a_this), (1, .ref a_o1), (3, .int x3)]) hx hb dX4_join_112 hl (k := 2) rfl rfl (by decide) rfl (fun ls hl => ?_)
      refine lv_goto (tgt := 10) hx hb dX4_join_115 (by decide) ?_
      exact hE10 _ _ _ _ _ h hw (lv_sub hl [1, 2, 0] rfl)
    · have h := h.2 c3
      refine lv_aload_n hx hb dX4_join_28 rfl (lv_at hl 1 rfl) ?_
      refine lv_iload_n hx hb dX4_join_29 rfl (lv_at hl 2 rfl) ?_
      refine lv_iload_n hx hb dX4_join_30 rfl (lv_at hl 3 rfl) ?_
      refine g_cvi (rm := { frames := 1, cells := 0, slots := 0, locals := 64 }) (wn := (fun (u : Unit) => (w_X4_join cy a_this a_numbers a_beside a_o1 a_o1_signs w_been v_numbers v_beside v_squares v_door v_o1_signs v_o1_rows v_o1_columns v_o1_squares v_o1_hasDoor v_o1_inRow))) (As := [.int x2, .int x3]) ha hw hl.1 (c_X0_sign (cy := cy)) (cwV 2 ha.2.2.2.2.1 gX4_join_X0_sign rfl rfl rfl hq_X0_sign ⟨Nat.le_of_ble_eq_true rfl, Nat.le_of_ble_eq_true rfl⟩) [3, 4] [0, 1, 2] [0, 1, 2, 3, 4] rfl rfl rfl rfl (by decide) rfl (fun _ => rfl) rfl rfl h rfl rfl (Nat.le_of_ble_eq_true rfl) dX4_join_31 ⟨Nat.le_refl _, Nat.le_refl _⟩ (fun r4 u H locs h hw => ?_)
      have hw : wd D A s.heap (w_X4_join cy a_this a_numbers a_beside a_o1 a_o1_signs w_been v_numbers v_beside v_squares v_door v_o1_signs v_o1_rows v_o1_columns v_o1_squares v_o1_hasDoor v_o1_inRow) H locs := hw
      try dsimp only at h
      refine lv_if_eq (tgt := 106) hx hb dX4_join_34 (by decide) (fun c5 => ?_) (fun c5 => ?_)
      · have h := h.1 c5
        refine lv_iinc (v := x3 + (1 : Int32)) (lv' := [(3, .int (x3 + (1 : Int32))), (0, .ref a_this), (1, .ref a_o1), (2, .int x2)]) hx hb dX4_join_106 hl (k := 3) rfl rfl (by decide) rfl (fun ls hl => ?_)
        refine lv_goto (tgt := 20) hx hb dX4_join_109 (by decide) ?_
        exact ih _ _ _ _ _ _ h hw (lv_sub hl [1, 2, 3, 0] rfl)
      · have h := h.2 c5
        refine lv_iload_n hx hb dX4_join_37 rfl (lv_at hl 2 rfl) ?_
        refine lv_iconst (v := (5 : Int32)) hx hb dX4_join_38 (by decide) ?_
        refine lv_imul hx hb dX4_join_39 ?_
        refine lv_iload_n hx hb dX4_join_40 rfl (lv_at hl 3 rfl) ?_
        refine lv_iadd hx hb dX4_join_41 ?_
        refine lv_topi (fun x4_6 ex4_6 => ?_)
        have h := h x4_6 ex4_6
        refine lv_istore (lv' := [(4, .int x4_6), (0, .ref a_this), (1, .ref a_o1), (2, .int x2), (3, .int x3)]) hx hb dX4_join_42 hl (by decide) rfl (fun ls hl => ?_)
        refine lv_aload_n hx hb dX4_join_44 rfl (lv_at hl 2 rfl) ?_
        refine lv_iload_n hx hb dX4_join_45 rfl (lv_at hl 3 rfl) ?_
        refine lv_iload_n hx hb dX4_join_46 rfl (lv_at hl 4 rfl) ?_
        refine lv_iconst (v := (1 : Int32)) hx hb dX4_join_47 (by decide) ?_
        refine lv_iadd hx hb dX4_join_48 ?_
        refine g_cvi (rm := { frames := 1, cells := 0, slots := 0, locals := 64 }) (wn := (fun (u : Unit) => (w_X4_join cy a_this a_numbers a_beside a_o1 a_o1_signs w_been v_numbers v_beside v_squares v_door v_o1_signs v_o1_rows v_o1_columns v_o1_squares v_o1_hasDoor v_o1_inRow))) (As := [.int x2, .int (x3 + (1 : Int32))]) ha hw hl.1 (c_X0_sign (cy := cy)) (cwV 2 ha.2.2.2.2.1 gX4_join_X0_sign rfl rfl rfl hq_X0_sign ⟨Nat.le_of_ble_eq_true rfl, Nat.le_of_ble_eq_true rfl⟩) [3, 4] [0, 1, 2] [0, 1, 2, 3, 4] rfl rfl rfl rfl (by decide) rfl (fun _ => rfl) rfl rfl h rfl rfl (Nat.le_of_ble_eq_true rfl) dX4_join_49 ⟨Nat.le_refl _, Nat.le_refl _⟩ (fun r7 u H locs h hw => ?_)
        have hw : wd D A s.heap (w_X4_join cy a_this a_numbers a_beside a_o1 a_o1_signs w_been v_numbers v_beside v_squares v_door v_o1_signs v_o1_rows v_o1_columns v_o1_squares v_o1_hasDoor v_o1_inRow) H locs := hw
        try dsimp only at h
        refine lv_if_eq (tgt := 75) hx hb dX4_join_52 (by decide) (fun c8 => ?_) (fun c8 => ?_)
        · have h := h.1 c8
          refine pl_X4_join_75 ha hr ?_ h hw (lv_sub hl [1, 2, 3, 4, 0] rfl)
          · intro x3_14 v_beside_15 H locs ls h hw hl
            try dsimp only at h
            exact ih _ _ _ _ _ _ h hw (lv_sub hl [0, 1, 2, 3] rfl)
        · have h := h.2 c8
          refine lv_aload_n hx hb dX4_join_55 rfl (lv_at hl 1 rfl) ?_
          refine lv_aload_n hx hb dX4_join_56 rfl (lv_at hl 1 rfl) ?_
          refine g_get (ci := 4) ha hw 0 0 rfl hi_X4_join_4 (by decide) (List.mem_of_getElem? (i := 2) rfl) rfl rfl dX4_join_57 ?_
          refine lv_iload hx hb dX4_join_60 (lv_at hl 0 rfl) ?_
          obtain ⟨z16, h⟩ := h
          refine g_ald ha hw 1 rfl z16 dX4_join_62 ?_
          refine lv_aload_n hx hb dX4_join_63 rfl (lv_at hl 1 rfl) ?_
          refine g_get (ci := 4) ha hw 0 0 rfl hi_X4_join_4 (by decide) (List.mem_of_getElem? (i := 2) rfl) rfl rfl dX4_join_64 ?_
          refine lv_iload hx hb dX4_join_67 (lv_at hl 0 rfl) ?_
          refine lv_iconst (v := (1 : Int32)) hx hb dX4_join_69 (by decide) ?_
          refine lv_iadd hx hb dX4_join_70 ?_
          obtain ⟨z17, h⟩ := h
          refine g_ald ha hw 1 rfl z17 dX4_join_71 ?_
          refine g_cvv (rm := { frames := 1, cells := 0, slots := 0, locals := 64 }) (wn := (fun (u : IA) => (w_X4_join cy a_this a_numbers a_beside a_o1 a_o1_signs w_been v_numbers u v_squares v_door v_o1_signs v_o1_rows v_o1_columns v_o1_squares v_o1_hasDoor v_o1_inRow))) (As := [.int (v_numbers x4_6.toNatClampNeg), .int (v_numbers (x4_6 + (1 : Int32)).toNatClampNeg)]) ha hw hl.1 (c_X4_joinTwo (cy := cy)) (cwV 2 ha.2.2.2.2.1 gX4_join_X4_joinTwo rfl rfl rfl hq_X4_joinTwo ⟨Nat.le_of_ble_eq_true rfl, Nat.le_of_ble_eq_true rfl⟩) [0, 2] [1, 3, 4] [3, 0, 4, 1, 2] rfl rfl rfl rfl (by decide) rfl (fun _ => rfl) rfl rfl h rfl rfl (Nat.le_of_ble_eq_true rfl) dX4_join_72 ⟨Nat.le_refl _, Nat.le_refl _⟩ (fun u H locs h hw => ?_)
          obtain ⟨v_beside_18, rfl⟩ : ∃ z, z = u := ⟨_, rfl⟩
          have hw : wd D A s.heap (w_X4_join cy a_this a_numbers a_beside a_o1 a_o1_signs w_been v_numbers v_beside_18 v_squares v_door v_o1_signs v_o1_rows v_o1_columns v_o1_squares v_o1_hasDoor v_o1_inRow) H locs := hw
          try dsimp only at h
          refine pl_X4_join_75 ha hr ?_ h hw (lv_sub hl [1, 2, 3, 4, 0] rfl)
          · intro x3_19 v_beside_20 H locs ls h hw hl
            try dsimp only at h
            exact ih _ _ _ _ _ _ h hw (lv_sub hl [0, 1, 2, 3] rfl)
def wp_X4_join_10 (v_numbers : IA) (v_o1_signs : IA) (v_o1_rows : Int32) (v_o1_columns : Int32) (K : IA → Prop) : Nat → Int32 → IA → Prop
  | 0, _, _ => False
  | n + 1, x2, v_beside => (v_o1_rows ≤ x2 → K v_beside) ∧ (¬ (v_o1_rows ≤ x2) → ∃ n23 : Nat, wp_X4_join_20 v_numbers v_o1_signs v_o1_rows v_o1_columns (fun (x2_21 : Int32) (v_beside_22 : IA) => wp_X4_join_10 v_numbers v_o1_signs v_o1_rows v_o1_columns K n x2_21 v_beside_22) K n23 x2 (0 : Int32) v_beside)
set_option maxHeartbeats 4000000 in
set_option maxRecDepth 100000 in
theorem pl_X4_join_10 {p : Program} {l : Launch} {e : Env} {s : State} {m : MethodId} {args : Array Value} {below : List Frame} {meth : Method} {c : Code} {A : Nat → Prop} {Q : State → Prop} {D : va_G} {cy : ClassId} {a_this a_numbers a_beside a_o1 a_o1_signs : Nat} {w_been : Value} {v_numbers : IA} {v_squares : Int32} {v_door : Int32} {v_o1_signs : IA} {v_o1_rows : Int32} {v_o1_columns : Int32} {v_o1_squares : Int32} {v_o1_hasDoor : Int32} {v_o1_inRow : Int32} {K : IA → Prop} (ha : am p s m args c cX4_join 5 RX4 wsX4_join D cy A) (hr : rtV p l e { frames := 2, cells := 0, slots := 0, locals := 151 } s m args below meth c 0 0 Q cX4_join D A (fun (u : IA) => (w_X4_join cy a_this a_numbers a_beside a_o1 a_o1_signs w_been v_numbers u v_squares v_door v_o1_signs v_o1_rows v_o1_columns v_o1_squares v_o1_hasDoor v_o1_inRow)) (fun (u : IA) => K u)) : ∀ (n : Nat) (x2 : Int32) (v_beside : IA) (H : Heap) (locs : List Loc) (ls : Array Slot), wp_X4_join_10 v_numbers v_o1_signs v_o1_rows v_o1_columns K n x2 v_beside → wd D A s.heap (w_X4_join cy a_this a_numbers a_beside a_o1 a_o1_signs w_been v_numbers v_beside v_squares v_door v_o1_signs v_o1_rows v_o1_columns v_o1_squares v_o1_hasDoor v_o1_inRow) H locs → lv_has ls 5 [(0, .ref a_this), (1, .ref a_o1), (2, .int x2)] → W p l e { frames := 2, cells := 0, slots := 0, locals := 151 } s m args below meth c H locs 0 0 Q (F0 m 10 ls []) := by
  have hx := ha.1
  have hb := ha.2.1
  intro n
  induction n with
  | zero => exact fun _ _ _ _ _ h _ _ => False.elim h
  | succ n ih =>
    intro x2 v_beside H locs ls h hw hl
    have h : (v_o1_rows ≤ x2 → K v_beside) ∧ (¬ (v_o1_rows ≤ x2) → ∃ n23 : Nat, wp_X4_join_20 v_numbers v_o1_signs v_o1_rows v_o1_columns (fun (x2_21 : Int32) (v_beside_22 : IA) => wp_X4_join_10 v_numbers v_o1_signs v_o1_rows v_o1_columns K n x2_21 v_beside_22) K n23 x2 (0 : Int32) v_beside) := h
    refine lv_iload_n hx hb dX4_join_10 rfl (lv_at hl 2 rfl) ?_
    refine lv_aload_n hx hb dX4_join_11 rfl (lv_at hl 1 rfl) ?_
    refine g_getN (ci := 0) ha hw 3 1 14 rfl hi_X4_join_0 (by decide) rfl rfl rfl dX4_join_12 ?_
    refine lv_icmp_ge (tgt := 118) hx hb dX4_join_15 (by decide) (fun c2 => ?_) (fun c2 => ?_)
    · have h := h.1 c2
      exact hr _ (v_beside) _ _ _ dX4_join_118 h hw
    · have h := h.2 c2
      refine lv_iconst (v := (0 : Int32)) hx hb dX4_join_18 (by decide) ?_
      refine lv_istore_n (lv' := [(3, .int (0 : Int32)), (0, .ref a_this), (1, .ref a_o1), (2, .int x2)]) hx hb dX4_join_19 rfl hl (by decide) rfl (fun ls hl => ?_)
      obtain ⟨n9, h⟩ := h
      refine pl_X4_join_20 ha hr ?_ n9 _ _ _ _ _ _ h hw (lv_sub hl [1, 2, 3, 0] rfl)
      · intro x2_21 v_beside_22 H locs ls h hw hl
        try dsimp only at h
        exact ih _ _ _ _ _ h hw (lv_sub hl [0, 1, 2] rfl)
def wp_X4_join (v_numbers : IA) (v_beside : IA) (v_o1_signs : IA) (v_o1_rows : Int32) (v_o1_columns : Int32) (K : IA → Prop) : Prop := wp_J7_fill_53178 (0 : Int32) (10) v_beside (fun (v_beside_1 : IA) => ∃ n24 : Nat, wp_X4_join_10 v_numbers v_o1_signs v_o1_rows v_o1_columns K n24 (0 : Int32) v_beside_1)
set_option maxHeartbeats 4000000 in
set_option maxRecDepth 100000 in
theorem c_X4_join {l : Launch} {D : va_G} {cy : ClassId} {a_this a_numbers a_beside a_o1 a_o1_signs : Nat} {w_been : Value} {v_numbers : IA} {v_beside : IA} {v_squares : Int32} {v_door : Int32} {v_o1_signs : IA} {v_o1_rows : Int32} {v_o1_columns : Int32} {v_o1_squares : Int32} {v_o1_hasDoor : Int32} {v_o1_inRow : Int32} {K : IA → Prop} : CtV l yX4_join wsX4_join { frames := 2, cells := 0, slots := 0, locals := 151 } 0 0 D cy [.ref a_this, .ref a_o1] (w_X4_join cy a_this a_numbers a_beside a_o1 a_o1_signs w_been v_numbers v_beside v_squares v_door v_o1_signs v_o1_rows v_o1_columns v_o1_squares v_o1_hasDoor v_o1_inRow) (wp_X4_join v_numbers v_beside v_o1_signs v_o1_rows v_o1_columns K) (fun (u : IA) => (w_X4_join cy a_this a_numbers a_beside a_o1 a_o1_signs w_been v_numbers u v_squares v_door v_o1_signs v_o1_rows v_o1_columns v_o1_squares v_o1_hasDoor v_o1_inRow)) (fun (u : IA) => K u) := by
  refine CtV.mk (cc := cX4_join) (nL := 5) (by decide) rfl (Nat.le_of_ble_eq_true rfl) ?_
  intro p e s m args below meth c A Q ha hr _ h ls hl hw
  have ha : am p s m args c cX4_join 5 RX4 wsX4_join D cy A := ha
  have hx := ha.1
  have hb := ha.2.1
  have hl : lv_has ls 5 [(0, .ref a_this), (1, .ref a_o1)] := hl
  have h : wp_J7_fill_53178 (0 : Int32) (10) v_beside (fun (v_beside_1 : IA) => ∃ n24 : Nat, wp_X4_join_10 v_numbers v_o1_signs v_o1_rows v_o1_columns K n24 (0 : Int32) v_beside_1) := h
  refine lv_aload_n hx hb dX4_join_0 rfl (lv_at hl 0 rfl) ?_
  refine g_get (ci := 4) ha hw 0 1 rfl hi_X4_join_4 (by decide) (List.mem_of_getElem? (i := 1) rfl) rfl rfl dX4_join_1 ?_
  refine lv_iconst (v := (0 : Int32)) hx hb dX4_join_4 (by decide) ?_
  refine g_csv (rm := { frames := 1, cells := 0, slots := 0, locals := 64 }) (wn := (fun (u : IA) => (w_X4_join cy a_this a_numbers a_beside a_o1 a_o1_signs w_been v_numbers u v_squares v_door v_o1_signs v_o1_rows v_o1_columns v_o1_squares v_o1_hasDoor v_o1_inRow))) (As := [.ref a_beside, .int (0 : Int32)]) ha hw hl.1 (c_J7_fill_53178 (cy := cy)) (va_cwS 2 ha.2.2.2.2.1 gX4_join_J7_fill_53178 rfl rfl rfl hq_J7_fill_53178 ⟨Nat.le_of_ble_eq_true rfl, Nat.le_of_ble_eq_true rfl⟩) [2] [0, 1, 3, 4] [0, 1, 4, 2, 3] rfl rfl rfl rfl (by decide) rfl (fun _ => rfl) h rfl rfl (Nat.le_of_ble_eq_true rfl) dX4_join_5 ⟨Nat.le_refl _, Nat.le_refl _⟩ (fun u H locs h hw => ?_)
  obtain ⟨v_beside_1, rfl⟩ : ∃ z, z = u := ⟨_, rfl⟩
  have hw : wd D A s.heap (w_X4_join cy a_this a_numbers a_beside a_o1 a_o1_signs w_been v_numbers v_beside_1 v_squares v_door v_o1_signs v_o1_rows v_o1_columns v_o1_squares v_o1_hasDoor v_o1_inRow) H locs := hw
  try dsimp only at h
  refine lv_iconst (v := (0 : Int32)) hx hb dX4_join_8 (by decide) ?_
  refine lv_istore_n (lv' := [(2, .int (0 : Int32)), (0, .ref a_this), (1, .ref a_o1)]) hx hb dX4_join_9 rfl hl (by decide) rfl (fun ls hl => ?_)
  obtain ⟨n9, h⟩ := h
  refine pl_X4_join_10 ha hr n9 _ _ _ _ _ h hw (lv_sub hl [1, 2, 0] rfl)
theorem hq_X4_frontOf : yX4_frontOf.cls ≠ "java/lang/invoke/MethodHandle" ∧ yX4_frontOf.cls ≠ "java/lang/invoke/VarHandle" ∧ (parseMethodDescriptor yX4_frontOf.desc).map (fun d => d.parameters.length) = some 1 := by decide +kernel
def w_X4_frontOf (cy : ClassId) : va_W := []
def wp_X4_frontOf (x0 : Int32) (K : Int32 → Prop) : Prop := K (x0 <<< ((10 : Int32) &&& 31))
set_option maxHeartbeats 4000000 in
set_option maxRecDepth 100000 in
theorem c_X4_frontOf {l : Launch} {D : va_G} {cy : ClassId} {x0 : Int32} {K : Int32 → Prop} : CtI l yX4_frontOf wsX4_frontOf { frames := 1, cells := 0, slots := 0, locals := 64 } 0 0 D cy [.int x0] (w_X4_frontOf cy) (wp_X4_frontOf x0 K) (fun (u : Unit) => (w_X4_frontOf cy)) (fun (r : Int32) (u : Unit) => K r) := by
  refine CtI.mk (cc := cX4_frontOf) (nL := 1) (ty := .int) (by decide) rfl (Nat.le_of_ble_eq_true rfl) (fun r u h => rfl) ?_
  intro p e s m args below meth c A Q ha hr _ h ls hl hw
  have ha : am p s m args c cX4_frontOf 1 RX4 wsX4_frontOf D cy A := ha
  have hx := ha.1
  have hb := ha.2.1
  have hl : lv_has ls 1 [(0, .int x0)] := hl
  have h : K (x0 <<< ((10 : Int32) &&& 31)) := h
  refine lv_iload_n hx hb dX4_frontOf_0 rfl (lv_at hl 0 rfl) ?_
  refine lv_bipush (v := (10 : Int32)) hx hb dX4_frontOf_1 (by decide) ?_
  refine lv_ishl hx hb dX4_frontOf_3 ?_
  exact hr _ _ () _ _ _ dX4_frontOf_4 h hw
theorem hq_X4_moveFrom : yX4_moveFrom.cls = RX4 ∧ yX4_moveFrom.cls ≠ "java/lang/invoke/MethodHandle" ∧ yX4_moveFrom.cls ≠ "java/lang/invoke/VarHandle" ∧ (parseMethodDescriptor yX4_moveFrom.desc).map (fun d => d.parameters.length) = some 2 := by decide +kernel
def w_X4_moveFrom (cy : ClassId) (a_this a_beside a_been : Nat) (w_numbers : Value) (v_beside : IA) (v_been : IA) (v_squares : Int32) (v_door : Int32) : va_W := [(a_this, .inr (4, [w_numbers, .ref a_beside, .ref a_been, .int v_squares, .int v_door])), (a_beside, .inl (cy, 10, .inl v_beside)), (a_been, .inl (cy, 1024, .inl v_been))]
theorem hi_X4_moveFrom_4 : ∀ w ∈ u_ws RX4 TX4 5, w ∈ wsX4_moveFrom := fun _ h => List.mem_cons_of_mem _ (List.mem_append_right _ h)
def wp_X4_moveFrom_2 (x1 : Int32) (x2 : Int32) (v_beside : IA) (v_squares : Int32) (K : IA → Prop) : Nat → Int32 → IA → Prop
  | 0, _, _ => False
  | n + 1, x3, v_been => (v_squares ≤ x3 → K v_been) ∧ (¬ (v_squares ≤ x3) → vp_in x2 10 ∧ (((((v_beside x2.toNatClampNeg) >>> (x3 &&& 31)) &&& (1 : Int32)) = 0 → wp_X4_moveFrom_2 x1 x2 v_beside v_squares K n (x3 + (1 : Int32)) v_been) ∧ (¬ ((((v_beside x2.toNatClampNeg) >>> (x3 &&& 31)) &&& (1 : Int32)) = 0) → vp_in (x1 ||| ((1 : Int32) <<< (x3 &&& 31))) 1024 ∧ (wp_X4_moveFrom_2 x1 x2 v_beside v_squares K n (x3 + (1 : Int32)) (upd v_been (x1 ||| ((1 : Int32) <<< (x3 &&& 31))).toNatClampNeg ((v_been (x1 ||| ((1 : Int32) <<< (x3 &&& 31))).toNatClampNeg) ||| ((1 : Int32) <<< (((20 : Int32) + x3) &&& 31))))))))
set_option maxHeartbeats 4000000 in
set_option maxRecDepth 100000 in
theorem pl_X4_moveFrom_2 {p : Program} {l : Launch} {e : Env} {s : State} {m : MethodId} {args : Array Value} {below : List Frame} {meth : Method} {c : Code} {A : Nat → Prop} {Q : State → Prop} {D : va_G} {cy : ClassId} {a_this a_beside a_been : Nat} {w_numbers : Value} {v_beside : IA} {v_squares : Int32} {v_door : Int32} {x1 : Int32} {x2 : Int32} {K : IA → Prop} (ha : am p s m args c cX4_moveFrom 4 RX4 wsX4_moveFrom D cy A) (hr : rtV p l e { frames := 1, cells := 0, slots := 0, locals := 64 } s m args below meth c 0 0 Q cX4_moveFrom D A (fun (u : IA) => (w_X4_moveFrom cy a_this a_beside a_been w_numbers v_beside u v_squares v_door)) (fun (u : IA) => K u)) : ∀ (n : Nat) (x3 : Int32) (v_been : IA) (H : Heap) (locs : List Loc) (ls : Array Slot), wp_X4_moveFrom_2 x1 x2 v_beside v_squares K n x3 v_been → wd D A s.heap (w_X4_moveFrom cy a_this a_beside a_been w_numbers v_beside v_been v_squares v_door) H locs → lv_has ls 4 [(0, .ref a_this), (1, .int x1), (2, .int x2), (3, .int x3)] → W p l e { frames := 1, cells := 0, slots := 0, locals := 64 } s m args below meth c H locs 0 0 Q (F0 m 2 ls []) := by
  have hx := ha.1
  have hb := ha.2.1
  intro n
  induction n with
  | zero => exact fun _ _ _ _ _ h _ _ => False.elim h
  | succ n ih =>
    intro x3 v_been H locs ls h hw hl
    have h : (v_squares ≤ x3 → K v_been) ∧ (¬ (v_squares ≤ x3) → vp_in x2 10 ∧ (((((v_beside x2.toNatClampNeg) >>> (x3 &&& 31)) &&& (1 : Int32)) = 0 → wp_X4_moveFrom_2 x1 x2 v_beside v_squares K n (x3 + (1 : Int32)) v_been) ∧ (¬ ((((v_beside x2.toNatClampNeg) >>> (x3 &&& 31)) &&& (1 : Int32)) = 0) → vp_in (x1 ||| ((1 : Int32) <<< (x3 &&& 31))) 1024 ∧ (wp_X4_moveFrom_2 x1 x2 v_beside v_squares K n (x3 + (1 : Int32)) (upd v_been (x1 ||| ((1 : Int32) <<< (x3 &&& 31))).toNatClampNeg ((v_been (x1 ||| ((1 : Int32) <<< (x3 &&& 31))).toNatClampNeg) ||| ((1 : Int32) <<< (((20 : Int32) + x3) &&& 31)))))))) := h
    refine lv_iload_n hx hb dX4_moveFrom_2 rfl (lv_at hl 3 rfl) ?_
    refine lv_aload_n hx hb dX4_moveFrom_3 rfl (lv_at hl 0 rfl) ?_
    refine g_get (ci := 4) ha hw 0 3 rfl hi_X4_moveFrom_4 (by decide) (List.mem_of_getElem? (i := 1) rfl) rfl rfl dX4_moveFrom_4 ?_
    refine lv_icmp_ge (tgt := 48) hx hb dX4_moveFrom_7 (by decide) (fun c1 => ?_) (fun c1 => ?_)
    · have h := h.1 c1
      exact hr _ (v_been) _ _ _ dX4_moveFrom_48 h hw
    · have h := h.2 c1
      refine lv_aload_n hx hb dX4_moveFrom_10 rfl (lv_at hl 0 rfl) ?_
      refine g_get (ci := 4) ha hw 0 1 rfl hi_X4_moveFrom_4 (by decide) (List.mem_of_getElem? (i := 2) rfl) rfl rfl dX4_moveFrom_11 ?_
      refine lv_iload_n hx hb dX4_moveFrom_14 rfl (lv_at hl 2 rfl) ?_
      obtain ⟨z2, h⟩ := h
      refine g_ald ha hw 1 rfl z2 dX4_moveFrom_15 ?_
      refine lv_iload_n hx hb dX4_moveFrom_16 rfl (lv_at hl 3 rfl) ?_
      refine lv_ishr hx hb dX4_moveFrom_17 ?_
      refine lv_iconst (v := (1 : Int32)) hx hb dX4_moveFrom_18 (by decide) ?_
      refine lv_iand hx hb dX4_moveFrom_19 ?_
      refine lv_if_eq (tgt := 42) hx hb dX4_moveFrom_20 (by decide) (fun c3 => ?_) (fun c3 => ?_)
      · have h := h.1 c3
        refine lv_iinc (v := x3 + (1 : Int32)) (lv' := [(3, .int (x3 + (1 : Int32))), (0, .ref a_this), (1, .int x1), (2, .int x2)]) hx hb dX4_moveFrom_42 hl (k := 3) rfl rfl (by decide) rfl (fun ls hl => ?_)
        refine lv_goto (tgt := 2) hx hb dX4_moveFrom_45 (by decide) ?_
        exact ih _ _ _ _ _ h hw (lv_sub hl [1, 2, 3, 0] rfl)
      · have h := h.2 c3
        refine lv_aload_n hx hb dX4_moveFrom_23 rfl (lv_at hl 0 rfl) ?_
        refine g_get (ci := 4) ha hw 0 2 rfl hi_X4_moveFrom_4 (by decide) (List.mem_of_getElem? (i := 3) rfl) rfl rfl dX4_moveFrom_24 ?_
        refine lv_iload_n hx hb dX4_moveFrom_27 rfl (lv_at hl 1 rfl) ?_
        refine lv_iconst (v := (1 : Int32)) hx hb dX4_moveFrom_28 (by decide) ?_
        refine lv_iload_n hx hb dX4_moveFrom_29 rfl (lv_at hl 3 rfl) ?_
        refine lv_ishl hx hb dX4_moveFrom_30 ?_
        refine lv_ior hx hb dX4_moveFrom_31 ?_
        refine lv_dup2_11 hx hb dX4_moveFrom_32 rfl rfl ?_
        obtain ⟨z4, h⟩ := h
        refine g_ald ha hw 2 rfl z4 dX4_moveFrom_33 ?_
        refine lv_iconst (v := (1 : Int32)) hx hb dX4_moveFrom_34 (by decide) ?_
        refine lv_bipush (v := (20 : Int32)) hx hb dX4_moveFrom_35 (by decide) ?_
        refine lv_iload_n hx hb dX4_moveFrom_37 rfl (lv_at hl 3 rfl) ?_
        refine lv_iadd hx hb dX4_moveFrom_38 ?_
        refine lv_ishl hx hb dX4_moveFrom_39 ?_
        refine lv_ior hx hb dX4_moveFrom_40 ?_
        refine g_ast (wn := (w_X4_moveFrom cy a_this a_beside a_been w_numbers v_beside (upd v_been (x1 ||| ((1 : Int32) <<< (x3 &&& 31))).toNatClampNeg ((v_been (x1 ||| ((1 : Int32) <<< (x3 &&& 31))).toNatClampNeg) ||| ((1 : Int32) <<< (((20 : Int32) + x3) &&& 31)))) v_squares v_door)) ha hw 2 rfl z4 rfl dX4_moveFrom_41 (fun H locs hw => ?_)
        refine lv_iinc (v := x3 + (1 : Int32)) (lv' := [(3, .int (x3 + (1 : Int32))), (0, .ref a_this), (1, .int x1), (2, .int x2)]) hx hb dX4_moveFrom_42 hl (k := 3) rfl rfl (by decide) rfl (fun ls hl => ?_)
        refine lv_goto (tgt := 2) hx hb dX4_moveFrom_45 (by decide) ?_
        exact ih _ _ _ _ _ h hw (lv_sub hl [1, 2, 3, 0] rfl)
def wp_X4_moveFrom (x1 : Int32) (x2 : Int32) (v_beside : IA) (v_been : IA) (v_squares : Int32) (K : IA → Prop) : Prop := ∃ n5 : Nat, wp_X4_moveFrom_2 x1 x2 v_beside v_squares K n5 (0 : Int32) v_been
set_option maxHeartbeats 4000000 in
set_option maxRecDepth 100000 in
theorem c_X4_moveFrom {l : Launch} {D : va_G} {cy : ClassId} {a_this a_beside a_been : Nat} {w_numbers : Value} {v_beside : IA} {v_been : IA} {v_squares : Int32} {v_door : Int32} {x1 : Int32} {x2 : Int32} {K : IA → Prop} : CtV l yX4_moveFrom wsX4_moveFrom { frames := 1, cells := 0, slots := 0, locals := 64 } 0 0 D cy [.ref a_this, .int x1, .int x2] (w_X4_moveFrom cy a_this a_beside a_been w_numbers v_beside v_been v_squares v_door) (wp_X4_moveFrom x1 x2 v_beside v_been v_squares K) (fun (u : IA) => (w_X4_moveFrom cy a_this a_beside a_been w_numbers v_beside u v_squares v_door)) (fun (u : IA) => K u) := by
  refine CtV.mk (cc := cX4_moveFrom) (nL := 4) (by decide) rfl (Nat.le_of_ble_eq_true rfl) ?_
  intro p e s m args below meth c A Q ha hr _ h ls hl hw
  have ha : am p s m args c cX4_moveFrom 4 RX4 wsX4_moveFrom D cy A := ha
  have hx := ha.1
  have hb := ha.2.1
  have hl : lv_has ls 4 [(0, .ref a_this), (1, .int x1), (2, .int x2)] := hl
  have h : ∃ n5 : Nat, wp_X4_moveFrom_2 x1 x2 v_beside v_squares K n5 (0 : Int32) v_been := h
  refine lv_iconst (v := (0 : Int32)) hx hb dX4_moveFrom_0 (by decide) ?_
  refine lv_istore_n (lv' := [(3, .int (0 : Int32)), (0, .ref a_this), (1, .int x1), (2, .int x2)]) hx hb dX4_moveFrom_1 rfl hl (by decide) rfl (fun ls hl => ?_)
  obtain ⟨n9, h⟩ := h
  refine pl_X4_moveFrom_2 ha hr n9 _ _ _ _ _ h hw (lv_sub hl [1, 2, 3, 0] rfl)
theorem hq_X4_moveOn : yX4_moveOn.cls = RX4 ∧ yX4_moveOn.cls ≠ "java/lang/invoke/MethodHandle" ∧ yX4_moveOn.cls ≠ "java/lang/invoke/VarHandle" ∧ (parseMethodDescriptor yX4_moveOn.desc).map (fun d => d.parameters.length) = some 0 := by decide +kernel
def w_X4_moveOn (cy : ClassId) (a_this a_beside a_been : Nat) (w_numbers : Value) (v_beside : IA) (v_been : IA) (v_squares : Int32) (v_door : Int32) : va_W := [(a_this, .inr (4, [w_numbers, .ref a_beside, .ref a_been, .int v_squares, .int v_door])), (a_beside, .inl (cy, 10, .inl v_beside)), (a_been, .inl (cy, 1024, .inl v_been))]
theorem hi_X4_moveOn_4 : ∀ w ∈ u_ws RX4 TX4 5, w ∈ wsX4_moveOn := fun _ h => List.mem_cons_of_mem _ (List.mem_append_right _ h)
def wp_X4_moveOn_28 (x2 : Int32) (v_beside : IA) (v_squares : Int32) (E2 : Int32 → IA → Prop) (K : IA → Prop) : Nat → Int32 → Int32 → IA → Prop
  | 0, _, _, _ => False
  | n + 1, x1, x3, v_been => (x2 = 0 → E2 (x1 + (1 : Int32)) v_been) ∧ (¬ (x2 = 0) → (v_squares ≤ x3 → E2 (x1 + (1 : Int32)) v_been) ∧ (¬ (v_squares ≤ x3) → (((x2 >>> (x3 &&& 31)) &&& (1 : Int32)) = 0 → wp_X4_moveOn_28 x2 v_beside v_squares E2 K n x1 (x3 + (1 : Int32)) v_been) ∧ (¬ (((x2 >>> (x3 &&& 31)) &&& (1 : Int32)) = 0) → wp_X4_moveFrom x1 x3 v_beside v_been v_squares (fun (v_been_7 : IA) => wp_X4_moveOn_28 x2 v_beside v_squares E2 K n x1 (x3 + (1 : Int32)) v_been_7))))
set_option maxHeartbeats 4000000 in
set_option maxRecDepth 100000 in
theorem pl_X4_moveOn_28 {p : Program} {l : Launch} {e : Env} {s : State} {m : MethodId} {args : Array Value} {below : List Frame} {meth : Method} {c : Code} {A : Nat → Prop} {Q : State → Prop} {D : va_G} {cy : ClassId} {a_this a_beside a_been : Nat} {w_numbers : Value} {v_beside : IA} {v_squares : Int32} {v_door : Int32} {x2 : Int32} {K : IA → Prop} {E2 : Int32 → IA → Prop} (ha : am p s m args c cX4_moveOn 4 RX4 wsX4_moveOn D cy A) (hr : rtV p l e { frames := 2, cells := 0, slots := 0, locals := 151 } s m args below meth c 0 0 Q cX4_moveOn D A (fun (u : IA) => (w_X4_moveOn cy a_this a_beside a_been w_numbers v_beside u v_squares v_door)) (fun (u : IA) => K u)) (hE2 : ∀ (x1' : Int32) (v_been' : IA) (H : Heap) (locs : List Loc) (ls : Array Slot), E2 x1' v_been' → wd D A s.heap (w_X4_moveOn cy a_this a_beside a_been w_numbers v_beside v_been' v_squares v_door) H locs → lv_has ls 4 [(0, .ref a_this), (1, .int x1')] → W p l e { frames := 2, cells := 0, slots := 0, locals := 151 } s m args below meth c H locs 0 0 Q (F0 m 2 ls [])) : ∀ (n : Nat) (x1 : Int32) (x3 : Int32) (v_been : IA) (H : Heap) (locs : List Loc) (ls : Array Slot), wp_X4_moveOn_28 x2 v_beside v_squares E2 K n x1 x3 v_been → wd D A s.heap (w_X4_moveOn cy a_this a_beside a_been w_numbers v_beside v_been v_squares v_door) H locs → lv_has ls 4 [(0, .ref a_this), (1, .int x1), (2, .int x2), (3, .int x3)] → W p l e { frames := 2, cells := 0, slots := 0, locals := 151 } s m args below meth c H locs 0 0 Q (F0 m 28 ls []) := by
  have hx := ha.1
  have hb := ha.2.1
  intro n
  induction n with
  | zero => exact fun _ _ _ _ _ _ h _ _ => False.elim h
  | succ n ih =>
    intro x1 x3 v_been H locs ls h hw hl
    have h : (x2 = 0 → E2 (x1 + (1 : Int32)) v_been) ∧ (¬ (x2 = 0) → (v_squares ≤ x3 → E2 (x1 + (1 : Int32)) v_been) ∧ (¬ (v_squares ≤ x3) → (((x2 >>> (x3 &&& 31)) &&& (1 : Int32)) = 0 → wp_X4_moveOn_28 x2 v_beside v_squares E2 K n x1 (x3 + (1 : Int32)) v_been) ∧ (¬ (((x2 >>> (x3 &&& 31)) &&& (1 : Int32)) = 0) → wp_X4_moveFrom x1 x3 v_beside v_been v_squares (fun (v_been_7 : IA) => wp_X4_moveOn_28 x2 v_beside v_squares E2 K n x1 (x3 + (1 : Int32)) v_been_7)))) := h
    refine lv_iload_n hx hb dX4_moveOn_28 rfl (lv_at hl 2 rfl) ?_
    refine lv_if_eq (tgt := 60) hx hb dX4_moveOn_29 (by decide) (fun c4 => ?_) (fun c4 => ?_)
    · have h := h.1 c4
      refine lv_iinc (v := x1 + (1 : Int32)) (lv' := [(1, .int (x1 + (1 : Int32))), (0, .ref a_this), (2, .int x2), (3, .int x3)]) hx hb dX4_moveOn_60 hl (k := 1) rfl rfl (by decide) rfl (fun ls hl => ?_)
      refine lv_goto (tgt := 2) hx hb dX4_moveOn_63 (by decide) ?_
      exact hE2 _ _ _ _ _ h hw (lv_sub hl [1, 0] rfl)
    · have h := h.2 c4
      refine lv_iload_n hx hb dX4_moveOn_32 rfl (lv_at hl 3 rfl) ?_
      refine lv_aload_n hx hb dX4_moveOn_33 rfl (lv_at hl 0 rfl) ?_
      refine g_get (ci := 4) ha hw 0 3 rfl hi_X4_moveOn_4 (by decide) (List.mem_of_getElem? (i := 1) rfl) rfl rfl dX4_moveOn_34 ?_
      refine lv_icmp_ge (tgt := 60) hx hb dX4_moveOn_37 (by decide) (fun c5 => ?_) (fun c5 => ?_)
      · have h := h.1 c5
        refine lv_iinc (v := x1 + (1 : Int32)) (lv' := [(1, .int (x1 + (1 : Int32))), (0, .ref a_this), (2, .int x2), (3, .int x3)]) hx hb dX4_moveOn_60 hl (k := 1) rfl rfl (by decide) rfl (fun ls hl => ?_)
        refine lv_goto (tgt := 2) hx hb dX4_moveOn_63 (by decide) ?_
        exact hE2 _ _ _ _ _ h hw (lv_sub hl [1, 0] rfl)
      · have h := h.2 c5
        refine lv_iload_n hx hb dX4_moveOn_40 rfl (lv_at hl 2 rfl) ?_
        refine lv_iload_n hx hb dX4_moveOn_41 rfl (lv_at hl 3 rfl) ?_
        refine lv_ishr hx hb dX4_moveOn_42 ?_
        refine lv_iconst (v := (1 : Int32)) hx hb dX4_moveOn_43 (by decide) ?_
        refine lv_iand hx hb dX4_moveOn_44 ?_
        refine lv_if_eq (tgt := 54) hx hb dX4_moveOn_45 (by decide) (fun c6 => ?_) (fun c6 => ?_)
        · have h := h.1 c6
          refine lv_iinc (v := x3 + (1 : Int32)) (lv' := [(3, .int (x3 + (1 : Int32))), (0, .ref a_this), (1, .int x1), (2, .int x2)]) hx hb dX4_moveOn_54 hl (k := 3) rfl rfl (by decide) rfl (fun ls hl => ?_)
          refine lv_goto (tgt := 28) hx hb dX4_moveOn_57 (by decide) ?_
          exact ih _ _ _ _ _ _ h hw (lv_sub hl [1, 2, 3, 0] rfl)
        · have h := h.2 c6
          refine lv_aload_n hx hb dX4_moveOn_48 rfl (lv_at hl 0 rfl) ?_
          refine lv_iload_n hx hb dX4_moveOn_49 rfl (lv_at hl 1 rfl) ?_
          refine lv_iload_n hx hb dX4_moveOn_50 rfl (lv_at hl 3 rfl) ?_
          refine g_cvv (rm := { frames := 1, cells := 0, slots := 0, locals := 64 }) (wn := (fun (u : IA) => (w_X4_moveOn cy a_this a_beside a_been w_numbers v_beside u v_squares v_door))) (As := [.int x1, .int x3]) ha hw hl.1 (c_X4_moveFrom (cy := cy)) (cwV 2 ha.2.2.2.2.1 gX4_moveOn_X4_moveFrom rfl rfl rfl hq_X4_moveFrom ⟨Nat.le_of_ble_eq_true rfl, Nat.le_of_ble_eq_true rfl⟩) [0, 1, 2] [] [0, 1, 2] rfl rfl rfl rfl (by decide) rfl (fun _ => rfl) rfl rfl h rfl rfl (Nat.le_of_ble_eq_true rfl) dX4_moveOn_51 ⟨Nat.le_refl _, Nat.le_refl _⟩ (fun u H locs h hw => ?_)
          obtain ⟨v_been_7, rfl⟩ : ∃ z, z = u := ⟨_, rfl⟩
          have hw : wd D A s.heap (w_X4_moveOn cy a_this a_beside a_been w_numbers v_beside v_been_7 v_squares v_door) H locs := hw
          try dsimp only at h
          refine lv_iinc (v := x3 + (1 : Int32)) (lv' := [(3, .int (x3 + (1 : Int32))), (0, .ref a_this), (1, .int x1), (2, .int x2)]) hx hb dX4_moveOn_54 hl (k := 3) rfl rfl (by decide) rfl (fun ls hl => ?_)
          refine lv_goto (tgt := 28) hx hb dX4_moveOn_57 (by decide) ?_
          exact ih _ _ _ _ _ _ h hw (lv_sub hl [1, 2, 3, 0] rfl)
def wp_X4_moveOn_2 (v_beside : IA) (v_squares : Int32) (E68 : Int32 → IA → Prop) (K : IA → Prop) : Nat → Int32 → IA → Prop
  | 0, _, _ => False
  | n + 1, x1, v_been => (((1 : Int32) <<< (v_squares &&& 31)) ≤ x1 → E68 (0 : Int32) v_been) ∧ (¬ (((1 : Int32) <<< (v_squares &&& 31)) ≤ x1) → vp_in x1 1024 ∧ (∀ x2_3 : Int32, x2_3 = ((v_been x1.toNatClampNeg) >>> ((10 : Int32) &&& 31)) &&& (1023 : Int32) → ∃ n10 : Nat, wp_X4_moveOn_28 x2_3 v_beside v_squares (fun (x1_8 : Int32) (v_been_9 : IA) => wp_X4_moveOn_2 v_beside v_squares E68 K n x1_8 v_been_9) K n10 x1 (0 : Int32) v_been))
set_option maxHeartbeats 4000000 in
set_option maxRecDepth 100000 in
theorem pl_X4_moveOn_2 {p : Program} {l : Launch} {e : Env} {s : State} {m : MethodId} {args : Array Value} {below : List Frame} {meth : Method} {c : Code} {A : Nat → Prop} {Q : State → Prop} {D : va_G} {cy : ClassId} {a_this a_beside a_been : Nat} {w_numbers : Value} {v_beside : IA} {v_squares : Int32} {v_door : Int32} {K : IA → Prop} {E68 : Int32 → IA → Prop} (ha : am p s m args c cX4_moveOn 4 RX4 wsX4_moveOn D cy A) (hr : rtV p l e { frames := 2, cells := 0, slots := 0, locals := 151 } s m args below meth c 0 0 Q cX4_moveOn D A (fun (u : IA) => (w_X4_moveOn cy a_this a_beside a_been w_numbers v_beside u v_squares v_door)) (fun (u : IA) => K u)) (hE68 : ∀ (x1' : Int32) (v_been' : IA) (H : Heap) (locs : List Loc) (ls : Array Slot), E68 x1' v_been' → wd D A s.heap (w_X4_moveOn cy a_this a_beside a_been w_numbers v_beside v_been' v_squares v_door) H locs → lv_has ls 4 [(0, .ref a_this), (1, .int x1')] → W p l e { frames := 2, cells := 0, slots := 0, locals := 151 } s m args below meth c H locs 0 0 Q (F0 m 68 ls [])) : ∀ (n : Nat) (x1 : Int32) (v_been : IA) (H : Heap) (locs : List Loc) (ls : Array Slot), wp_X4_moveOn_2 v_beside v_squares E68 K n x1 v_been → wd D A s.heap (w_X4_moveOn cy a_this a_beside a_been w_numbers v_beside v_been v_squares v_door) H locs → lv_has ls 4 [(0, .ref a_this), (1, .int x1)] → W p l e { frames := 2, cells := 0, slots := 0, locals := 151 } s m args below meth c H locs 0 0 Q (F0 m 2 ls []) := by
  have hx := ha.1
  have hb := ha.2.1
  intro n
  induction n with
  | zero => exact fun _ _ _ _ _ h _ _ => False.elim h
  | succ n ih =>
    intro x1 v_been H locs ls h hw hl
    have h : (((1 : Int32) <<< (v_squares &&& 31)) ≤ x1 → E68 (0 : Int32) v_been) ∧ (¬ (((1 : Int32) <<< (v_squares &&& 31)) ≤ x1) → vp_in x1 1024 ∧ (∀ x2_3 : Int32, x2_3 = ((v_been x1.toNatClampNeg) >>> ((10 : Int32) &&& 31)) &&& (1023 : Int32) → ∃ n10 : Nat, wp_X4_moveOn_28 x2_3 v_beside v_squares (fun (x1_8 : Int32) (v_been_9 : IA) => wp_X4_moveOn_2 v_beside v_squares E68 K n x1_8 v_been_9) K n10 x1 (0 : Int32) v_been)) := h
    refine lv_iload_n hx hb dX4_moveOn_2 rfl (lv_at hl 1 rfl) ?_
    refine lv_iconst (v := (1 : Int32)) hx hb dX4_moveOn_3 (by decide) ?_
    refine lv_aload_n hx hb dX4_moveOn_4 rfl (lv_at hl 0 rfl) ?_
    refine g_get (ci := 4) ha hw 0 3 rfl hi_X4_moveOn_4 (by decide) (List.mem_of_getElem? (i := 1) rfl) rfl rfl dX4_moveOn_5 ?_
    refine lv_ishl hx hb dX4_moveOn_8 ?_
    refine lv_icmp_ge (tgt := 66) hx hb dX4_moveOn_9 (by decide) (fun c1 => ?_) (fun c1 => ?_)
    · have h := h.1 c1
      refine lv_iconst (v := (0 : Int32)) hx hb dX4_moveOn_66 (by decide) ?_
      refine lv_istore_n (lv' := [(1, .int (0 : Int32)), (0, .ref a_this)]) hx hb dX4_moveOn_67 rfl hl (by decide) rfl (fun ls hl => ?_)
      exact hE68 _ _ _ _ _ h hw (lv_sub hl [1, 0] rfl)
    · have h := h.2 c1
      refine lv_aload_n hx hb dX4_moveOn_12 rfl (lv_at hl 0 rfl) ?_
      refine g_get (ci := 4) ha hw 0 2 rfl hi_X4_moveOn_4 (by decide) (List.mem_of_getElem? (i := 2) rfl) rfl rfl dX4_moveOn_13 ?_
      refine lv_iload_n hx hb dX4_moveOn_16 rfl (lv_at hl 1 rfl) ?_
      obtain ⟨z2, h⟩ := h
      refine g_ald ha hw 2 rfl z2 dX4_moveOn_17 ?_
      refine lv_bipush (v := (10 : Int32)) hx hb dX4_moveOn_18 (by decide) ?_
      refine lv_ishr hx hb dX4_moveOn_20 ?_
      refine lv_sipush (v := (1023 : Int32)) hx hb dX4_moveOn_21 (by decide) ?_
      refine lv_iand hx hb dX4_moveOn_24 ?_
      refine lv_topi (fun x2_3 ex2_3 => ?_)
      have h := h x2_3 ex2_3
      refine lv_istore_n (lv' := [(2, .int x2_3), (0, .ref a_this), (1, .int x1)]) hx hb dX4_moveOn_25 rfl hl (by decide) rfl (fun ls hl => ?_)
      refine lv_iconst (v := (0 : Int32)) hx hb dX4_moveOn_26 (by decide) ?_
      refine lv_istore_n (lv' := [(3, .int (0 : Int32)), (2, .int x2_3), (0, .ref a_this), (1, .int x1)]) hx hb dX4_moveOn_27 rfl hl (by decide) rfl (fun ls hl => ?_)
      obtain ⟨n9, h⟩ := h
      refine pl_X4_moveOn_28 ha hr ?_ n9 _ _ _ _ _ _ h hw (lv_sub hl [2, 3, 1, 0] rfl)
      · intro x1_8 v_been_9 H locs ls h hw hl
        try dsimp only at h
        exact ih _ _ _ _ _ h hw (lv_sub hl [0, 1] rfl)
def wp_X4_moveOn_68 (v_squares : Int32) (K : IA → Prop) : Nat → Int32 → IA → Prop
  | 0, _, _ => False
  | n + 1, x1, v_been => (((1 : Int32) <<< (v_squares &&& 31)) ≤ x1 → K v_been) ∧ (¬ (((1 : Int32) <<< (v_squares &&& 31)) ≤ x1) → vp_in x1 1024 ∧ (∀ x2_15 : Int32, x2_15 = ((v_been x1.toNatClampNeg) &&& (1023 : Int32)) ||| (((v_been x1.toNatClampNeg) >>> ((10 : Int32) &&& 31)) &&& (1023 : Int32)) → ∀ x3_16 : Int32, x3_16 = ((v_been x1.toNatClampNeg) >>> ((20 : Int32) &&& 31)) &&& (x2_15 ^^^ (-1 : Int32)) → wp_X4_frontOf x3_16 (fun (r17 : Int32) => wp_X4_moveOn_68 v_squares K n (x1 + (1 : Int32)) (upd v_been x1.toNatClampNeg (x2_15 ||| r17)))))
set_option maxHeartbeats 4000000 in
set_option maxRecDepth 100000 in
theorem pl_X4_moveOn_68 {p : Program} {l : Launch} {e : Env} {s : State} {m : MethodId} {args : Array Value} {below : List Frame} {meth : Method} {c : Code} {A : Nat → Prop} {Q : State → Prop} {D : va_G} {cy : ClassId} {a_this a_beside a_been : Nat} {w_numbers : Value} {v_beside : IA} {v_squares : Int32} {v_door : Int32} {K : IA → Prop} (ha : am p s m args c cX4_moveOn 4 RX4 wsX4_moveOn D cy A) (hr : rtV p l e { frames := 2, cells := 0, slots := 0, locals := 151 } s m args below meth c 0 0 Q cX4_moveOn D A (fun (u : IA) => (w_X4_moveOn cy a_this a_beside a_been w_numbers v_beside u v_squares v_door)) (fun (u : IA) => K u)) : ∀ (n : Nat) (x1 : Int32) (v_been : IA) (H : Heap) (locs : List Loc) (ls : Array Slot), wp_X4_moveOn_68 v_squares K n x1 v_been → wd D A s.heap (w_X4_moveOn cy a_this a_beside a_been w_numbers v_beside v_been v_squares v_door) H locs → lv_has ls 4 [(0, .ref a_this), (1, .int x1)] → W p l e { frames := 2, cells := 0, slots := 0, locals := 151 } s m args below meth c H locs 0 0 Q (F0 m 68 ls []) := by
  have hx := ha.1
  have hb := ha.2.1
  intro n
  induction n with
  | zero => exact fun _ _ _ _ _ h _ _ => False.elim h
  | succ n ih =>
    intro x1 v_been H locs ls h hw hl
    have h : (((1 : Int32) <<< (v_squares &&& 31)) ≤ x1 → K v_been) ∧ (¬ (((1 : Int32) <<< (v_squares &&& 31)) ≤ x1) → vp_in x1 1024 ∧ (∀ x2_15 : Int32, x2_15 = ((v_been x1.toNatClampNeg) &&& (1023 : Int32)) ||| (((v_been x1.toNatClampNeg) >>> ((10 : Int32) &&& 31)) &&& (1023 : Int32)) → ∀ x3_16 : Int32, x3_16 = ((v_been x1.toNatClampNeg) >>> ((20 : Int32) &&& 31)) &&& (x2_15 ^^^ (-1 : Int32)) → wp_X4_frontOf x3_16 (fun (r17 : Int32) => wp_X4_moveOn_68 v_squares K n (x1 + (1 : Int32)) (upd v_been x1.toNatClampNeg (x2_15 ||| r17))))) := h
    refine lv_iload_n hx hb dX4_moveOn_68 rfl (lv_at hl 1 rfl) ?_
    refine lv_iconst (v := (1 : Int32)) hx hb dX4_moveOn_69 (by decide) ?_
    refine lv_aload_n hx hb dX4_moveOn_70 rfl (lv_at hl 0 rfl) ?_
    refine g_get (ci := 4) ha hw 0 3 rfl hi_X4_moveOn_4 (by decide) (List.mem_of_getElem? (i := 1) rfl) rfl rfl dX4_moveOn_71 ?_
    refine lv_ishl hx hb dX4_moveOn_74 ?_
    refine lv_icmp_ge (tgt := 135) hx hb dX4_moveOn_75 (by decide) (fun c13 => ?_) (fun c13 => ?_)
    · have h := h.1 c13
      exact hr _ (v_been) _ _ _ dX4_moveOn_135 h hw
    · have h := h.2 c13
      refine lv_aload_n hx hb dX4_moveOn_78 rfl (lv_at hl 0 rfl) ?_
      refine g_get (ci := 4) ha hw 0 2 rfl hi_X4_moveOn_4 (by decide) (List.mem_of_getElem? (i := 2) rfl) rfl rfl dX4_moveOn_79 ?_
      refine lv_iload_n hx hb dX4_moveOn_82 rfl (lv_at hl 1 rfl) ?_
      obtain ⟨z14, h⟩ := h
      refine g_ald ha hw 2 rfl z14 dX4_moveOn_83 ?_
      refine lv_sipush (v := (1023 : Int32)) hx hb dX4_moveOn_84 (by decide) ?_
      refine lv_iand hx hb dX4_moveOn_87 ?_
      refine lv_aload_n hx hb dX4_moveOn_88 rfl (lv_at hl 0 rfl) ?_
      refine g_get (ci := 4) ha hw 0 2 rfl hi_X4_moveOn_4 (by decide) (List.mem_of_getElem? (i := 2) rfl) rfl rfl dX4_moveOn_89 ?_
      refine lv_iload_n hx hb dX4_moveOn_92 rfl (lv_at hl 1 rfl) ?_
      refine g_ald ha hw 2 rfl z14 dX4_moveOn_93 ?_
      refine lv_bipush (v := (10 : Int32)) hx hb dX4_moveOn_94 (by decide) ?_
      refine lv_ishr hx hb dX4_moveOn_96 ?_
      refine lv_sipush (v := (1023 : Int32)) hx hb dX4_moveOn_97 (by decide) ?_
      refine lv_iand hx hb dX4_moveOn_100 ?_
      refine lv_ior hx hb dX4_moveOn_101 ?_
      refine lv_topi (fun x2_15 ex2_15 => ?_)
      have h := h x2_15 ex2_15
      refine lv_istore_n (lv' := [(2, .int x2_15), (0, .ref a_this), (1, .int x1)]) hx hb dX4_moveOn_102 rfl hl (by decide) rfl (fun ls hl => ?_)
      refine lv_aload_n hx hb dX4_moveOn_103 rfl (lv_at hl 1 rfl) ?_
      refine g_get (ci := 4) ha hw 0 2 rfl hi_X4_moveOn_4 (by decide) (List.mem_of_getElem? (i := 2) rfl) rfl rfl dX4_moveOn_104 ?_
      refine lv_iload_n hx hb dX4_moveOn_107 rfl (lv_at hl 2 rfl) ?_
      refine g_ald ha hw 2 rfl z14 dX4_moveOn_108 ?_
      refine lv_bipush (v := (20 : Int32)) hx hb dX4_moveOn_109 (by decide) ?_
      refine lv_ishr hx hb dX4_moveOn_111 ?_
      refine lv_iload_n hx hb dX4_moveOn_112 rfl (lv_at hl 0 rfl) ?_
      refine lv_iconst (v := (-1 : Int32)) hx hb dX4_moveOn_113 (by decide) ?_
      refine lv_ixor hx hb dX4_moveOn_114 ?_
      refine lv_iand hx hb dX4_moveOn_115 ?_
      refine lv_topi (fun x3_16 ex3_16 => ?_)
      have h := h x3_16 ex3_16
      refine lv_istore_n (lv' := [(3, .int x3_16), (2, .int x2_15), (0, .ref a_this), (1, .int x1)]) hx hb dX4_moveOn_116 rfl hl (by decide) rfl (fun ls hl => ?_)
      refine lv_aload_n hx hb dX4_moveOn_117 rfl (lv_at hl 2 rfl) ?_
      refine g_get (ci := 4) ha hw 0 2 rfl hi_X4_moveOn_4 (by decide) (List.mem_of_getElem? (i := 2) rfl) rfl rfl dX4_moveOn_118 ?_
      refine lv_iload_n hx hb dX4_moveOn_121 rfl (lv_at hl 3 rfl) ?_
      refine lv_iload_n hx hb dX4_moveOn_122 rfl (lv_at hl 1 rfl) ?_
      refine lv_iload_n hx hb dX4_moveOn_123 rfl (lv_at hl 0 rfl) ?_
      refine g_csi (rm := { frames := 1, cells := 0, slots := 0, locals := 64 }) (wn := (fun (u : Unit) => (w_X4_moveOn cy a_this a_beside a_been w_numbers v_beside v_been v_squares v_door))) (As := [.int x3_16]) ha hw hl.1 (c_X4_frontOf (cy := cy)) (va_cwS 1 ha.2.2.2.2.1 gX4_moveOn_X4_frontOf rfl rfl rfl hq_X4_frontOf ⟨Nat.le_of_ble_eq_true rfl, Nat.le_of_ble_eq_true rfl⟩) [] [0, 1, 2] [0, 1, 2] rfl rfl rfl rfl (by decide) rfl (fun _ => rfl) h rfl rfl (Nat.le_of_ble_eq_true rfl) dX4_moveOn_124 ⟨Nat.le_refl _, Nat.le_refl _⟩ (fun r17 u H locs h hw => ?_)
      have hw : wd D A s.heap (w_X4_moveOn cy a_this a_beside a_been w_numbers v_beside v_been v_squares v_door) H locs := hw
      try dsimp only at h
      refine lv_ior hx hb dX4_moveOn_127 ?_
      refine g_ast (wn := (w_X4_moveOn cy a_this a_beside a_been w_numbers v_beside (upd v_been x1.toNatClampNeg (x2_15 ||| r17)) v_squares v_door)) ha hw 2 rfl z14 rfl dX4_moveOn_128 (fun H locs hw => ?_)
      refine lv_iinc (v := x1 + (1 : Int32)) (lv' := [(1, .int (x1 + (1 : Int32))), (3, .int x3_16), (2, .int x2_15), (0, .ref a_this)]) hx hb dX4_moveOn_129 hl (k := 3) rfl rfl (by decide) rfl (fun ls hl => ?_)
      refine lv_goto (tgt := 68) hx hb dX4_moveOn_132 (by decide) ?_
      exact ih _ _ _ _ _ h hw (lv_sub hl [3, 0] rfl)
def wp_X4_moveOn (v_beside : IA) (v_been : IA) (v_squares : Int32) (K : IA → Prop) : Prop := ∃ n19 : Nat, wp_X4_moveOn_2 v_beside v_squares (fun (x1_11 : Int32) (v_been_12 : IA) => ∃ n18 : Nat, wp_X4_moveOn_68 v_squares K n18 x1_11 v_been_12) K n19 (0 : Int32) v_been
set_option maxHeartbeats 4000000 in
set_option maxRecDepth 100000 in
theorem c_X4_moveOn {l : Launch} {D : va_G} {cy : ClassId} {a_this a_beside a_been : Nat} {w_numbers : Value} {v_beside : IA} {v_been : IA} {v_squares : Int32} {v_door : Int32} {K : IA → Prop} : CtV l yX4_moveOn wsX4_moveOn { frames := 2, cells := 0, slots := 0, locals := 151 } 0 0 D cy [.ref a_this] (w_X4_moveOn cy a_this a_beside a_been w_numbers v_beside v_been v_squares v_door) (wp_X4_moveOn v_beside v_been v_squares K) (fun (u : IA) => (w_X4_moveOn cy a_this a_beside a_been w_numbers v_beside u v_squares v_door)) (fun (u : IA) => K u) := by
  refine CtV.mk (cc := cX4_moveOn) (nL := 4) (by decide) rfl (Nat.le_of_ble_eq_true rfl) ?_
  intro p e s m args below meth c A Q ha hr _ h ls hl hw
  have ha : am p s m args c cX4_moveOn 4 RX4 wsX4_moveOn D cy A := ha
  have hx := ha.1
  have hb := ha.2.1
  have hl : lv_has ls 4 [(0, .ref a_this)] := hl
  have h : ∃ n19 : Nat, wp_X4_moveOn_2 v_beside v_squares (fun (x1_11 : Int32) (v_been_12 : IA) => ∃ n18 : Nat, wp_X4_moveOn_68 v_squares K n18 x1_11 v_been_12) K n19 (0 : Int32) v_been := h
  refine lv_iconst (v := (0 : Int32)) hx hb dX4_moveOn_0 (by decide) ?_
  refine lv_istore_n (lv' := [(1, .int (0 : Int32)), (0, .ref a_this)]) hx hb dX4_moveOn_1 rfl hl (by decide) rfl (fun ls hl => ?_)
  obtain ⟨n9, h⟩ := h
  refine pl_X4_moveOn_2 ha hr ?_ n9 _ _ _ _ _ h hw (lv_sub hl [1, 0] rfl)
  · intro x1_11 v_been_12 H locs ls h hw hl
    try dsimp only at h
    obtain ⟨n9, h⟩ := h
    refine pl_X4_moveOn_68 ha hr n9 _ _ _ _ _ h hw (lv_sub hl [0, 1] rfl)
