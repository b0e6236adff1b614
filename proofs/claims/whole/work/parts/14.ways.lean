theorem hq_X9_barredNeeds : yX9_barredNeeds.cls = RX9 ∧ yX9_barredNeeds.cls ≠ "java/lang/invoke/MethodHandle" ∧ yX9_barredNeeds.cls ≠ "java/lang/invoke/VarHandle" ∧ (parseMethodDescriptor yX9_barredNeeds.desc).map (fun d => d.parameters.length) = some 1 := by decide +kernel
def w_X9_barredNeeds (cy : ClassId) (a_this a_barred : Nat) (w_comesTo : Value) (v_barred : IA) : va_W := [(a_this, .inr (9, [w_comesTo, .ref a_barred])), (a_barred, .inl (cy, 32, .inl v_barred))]
theorem hi_X9_barredNeeds_9 : ∀ w ∈ u_ws RX9 TX9 2, w ∈ wsX9_barredNeeds := fun _ h => List.mem_cons_of_mem _ (List.mem_append_right _ h)
def wp_X9_barredNeeds (x1 : Int32) (v_barred : IA) (K : Int32 → Prop) : Prop := vp_in ((x1 >>> ((1 : Int32) &&& 31)) &&& (31 : Int32)) 32 ∧ (K (v_barred ((x1 >>> ((1 : Int32) &&& 31)) &&& (31 : Int32)).toNatClampNeg))
set_option maxHeartbeats 4000000 in
set_option maxRecDepth 100000 in
theorem c_X9_barredNeeds {l : Launch} {D : va_G} {cy : ClassId} {a_this a_barred : Nat} {w_comesTo : Value} {v_barred : IA} {x1 : Int32} {K : Int32 → Prop} : CtI l yX9_barredNeeds wsX9_barredNeeds { frames := 1, cells := 0, slots := 0, locals := 64 } 0 0 D cy [.ref a_this, .int x1] (w_X9_barredNeeds cy a_this a_barred w_comesTo v_barred) (wp_X9_barredNeeds x1 v_barred K) (fun (u : Unit) => (w_X9_barredNeeds cy a_this a_barred w_comesTo v_barred)) (fun (r : Int32) (u : Unit) => K r) := by
  refine CtI.mk (cc := cX9_barredNeeds) (nL := 2) (ty := .int) (by decide) rfl (Nat.le_of_ble_eq_true rfl) (fun r u h => rfl) ?_
  intro p e s m args below meth c A Q ha hr _ h ls hl hw
  have ha : am p s m args c cX9_barredNeeds 2 RX9 wsX9_barredNeeds D cy A := ha
  have hx := ha.1
  have hb := ha.2.1
  have hl : lv_has ls 2 [(0, .ref a_this), (1, .int x1)] := hl
  have h : vp_in ((x1 >>> ((1 : Int32) &&& 31)) &&& (31 : Int32)) 32 ∧ (K (v_barred ((x1 >>> ((1 : Int32) &&& 31)) &&& (31 : Int32)).toNatClampNeg)) := h
  refine lv_aload_n hx hb dX9_barredNeeds_0 rfl (lv_at hl 0 rfl) ?_
  refine g_get (ci := 9) ha hw 0 1 rfl hi_X9_barredNeeds_9 (by decide) (List.mem_of_getElem? (i := 1) rfl) rfl rfl dX9_barredNeeds_1 ?_
  refine lv_iload_n hx hb dX9_barredNeeds_4 rfl (lv_at hl 1 rfl) ?_
  refine lv_iconst (v := (1 : Int32)) hx hb dX9_barredNeeds_5 (by decide) ?_
  refine lv_ishr hx hb dX9_barredNeeds_6 ?_
  refine lv_bipush (v := (31 : Int32)) hx hb dX9_barredNeeds_7 (by decide) ?_
  refine lv_iand hx hb dX9_barredNeeds_9 ?_
  obtain ⟨z1, h⟩ := h
  refine g_ald ha hw 1 rfl z1 dX9_barredNeeds_10 ?_
  exact hr _ _ () _ _ _ dX9_barredNeeds_11 h hw
theorem hq_X9_leads : yX9_leads.cls = RX9 ∧ yX9_leads.cls ≠ "java/lang/invoke/MethodHandle" ∧ yX9_leads.cls ≠ "java/lang/invoke/VarHandle" ∧ (parseMethodDescriptor yX9_leads.desc).map (fun d => d.parameters.length) = some 3 := by decide +kernel
def w_X9_leads (cy : ClassId) (a_this a_comesTo : Nat) (w_barred : Value) (v_comesTo : IA) : va_W := [(a_this, .inr (9, [.ref a_comesTo, w_barred])), (a_comesTo, .inl (cy, 192, .inl v_comesTo))]
theorem hi_X9_leads_9 : ∀ w ∈ u_ws RX9 TX9 2, w ∈ wsX9_leads := fun _ h => List.mem_cons_of_mem _ (List.mem_append_right _ h)
def wp_X9_leads (x1 : Int32) (x2 : Int32) (x3 : Int32) (v_comesTo : IA) (K : Int32 → Prop) : Prop := ∀ x4_1 : Int32, x4_1 = (x3 >>> ((1 : Int32) &&& 31)) &&& (31 : Int32) → (x1 < 0 → K (0 : Int32)) ∧ (¬ (x1 < 0) → ((6 : Int32) ≤ x1 → K (0 : Int32)) ∧ (¬ ((6 : Int32) ≤ x1) → vp_in ((x4_1 * (6 : Int32)) + x1) 192 ∧ (((((v_comesTo ((x4_1 * (6 : Int32)) + x1).toNatClampNeg) >>> (x2 &&& 31)) &&& (1 : Int32)) = 0 → K (0 : Int32)) ∧ (¬ ((((v_comesTo ((x4_1 * (6 : Int32)) + x1).toNatClampNeg) >>> (x2 &&& 31)) &&& (1 : Int32)) = 0) → K (1 : Int32)))))
set_option maxHeartbeats 4000000 in
set_option maxRecDepth 100000 in
theorem c_X9_leads {l : Launch} {D : va_G} {cy : ClassId} {a_this a_comesTo : Nat} {w_barred : Value} {v_comesTo : IA} {x1 : Int32} {x2 : Int32} {x3 : Int32} {K : Int32 → Prop} : CtI l yX9_leads wsX9_leads { frames := 1, cells := 0, slots := 0, locals := 64 } 0 0 D cy [.ref a_this, .int x1, .int x2, .int x3] (w_X9_leads cy a_this a_comesTo w_barred v_comesTo) (wp_X9_leads x1 x2 x3 v_comesTo K) (fun (u : Unit) => (w_X9_leads cy a_this a_comesTo w_barred v_comesTo)) (fun (r : Int32) (u : Unit) => nz r ∧ K r) := by
  refine CtI.mk (cc := cX9_leads) (nL := 5) (ty := .boolean) (by decide) rfl (Nat.le_of_ble_eq_true rfl) (fun r u h => h.1.nar) ?_
  intro p e s m args below meth c A Q ha hr _ h ls hl hw
  have ha : am p s m args c cX9_leads 5 RX9 wsX9_leads D cy A := ha
  have hx := ha.1
  have hb := ha.2.1
  have hl : lv_has ls 5 [(0, .ref a_this), (1, .int x1), (2, .int x2), (3, .int x3)] := hl
  have h : ∀ x4_1 : Int32, x4_1 = (x3 >>> ((1 : Int32) &&& 31)) &&& (31 : Int32) → (x1 < 0 → K (0 : Int32)) ∧ (¬ (x1 < 0) → ((6 : Int32) ≤ x1 → K (0 : Int32)) ∧ (¬ ((6 : Int32) ≤ x1) → vp_in ((x4_1 * (6 : Int32)) + x1) 192 ∧ (((((v_comesTo ((x4_1 * (6 : Int32)) + x1).toNatClampNeg) >>> (x2 &&& 31)) &&& (1 : Int32)) = 0 → K (0 : Int32)) ∧ (¬ ((((v_comesTo ((x4_1 * (6 : Int32)) + x1).toNatClampNeg) >>> (x2 &&& 31)) &&& (1 : Int32)) = 0) → K (1 : Int32))))) := h
  refine lv_iload_n hx hb dX9_leads_0 rfl (lv_at hl 3 rfl) ?_
  refine lv_iconst (v := (1 : Int32)) hx hb dX9_leads_1 (by decide) ?_
  refine lv_ishr hx hb dX9_leads_2 ?_
  refine lv_bipush (v := (31 : Int32)) hx hb dX9_leads_3 (by decide) ?_
  refine lv_iand hx hb dX9_leads_5 ?_
  refine lv_topi (fun x4_1 ex4_1 => ?_)
  have h := h x4_1 ex4_1
  refine lv_istore (lv' := [(4, .int x4_1), (0, .ref a_this), (1, .int x1), (2, .int x2), (3, .int x3)]) hx hb dX9_leads_6 hl (by decide) rfl (fun ls hl => ?_)
  refine lv_iload_n hx hb dX9_leads_8 rfl (lv_at hl 2 rfl) ?_
  refine lv_if_lt (tgt := 41) hx hb dX9_leads_9 (by decide) (fun c2 => ?_) (fun c2 => ?_)
  · have h := h.1 c2
    refine lv_iconst (v := (0 : Int32)) hx hb dX9_leads_41 (by decide) ?_
    exact hr _ _ () _ _ _ dX9_leads_42 ⟨nz0, h⟩ hw
  · have h := h.2 c2
    refine lv_iload_n hx hb dX9_leads_12 rfl (lv_at hl 2 rfl) ?_
    refine lv_bipush (v := (6 : Int32)) hx hb dX9_leads_13 (by decide) ?_
    refine lv_icmp_ge (tgt := 41) hx hb dX9_leads_15 (by decide) (fun c3 => ?_) (fun c3 => ?_)
    · have h := h.1 c3
      refine lv_iconst (v := (0 : Int32)) hx hb dX9_leads_41 (by decide) ?_
      exact hr _ _ () _ _ _ dX9_leads_42 ⟨nz0, h⟩ hw
    · have h := h.2 c3
      refine lv_aload_n hx hb dX9_leads_18 rfl (lv_at hl 1 rfl) ?_
      refine g_get (ci := 9) ha hw 0 0 rfl hi_X9_leads_9 (by decide) (List.mem_of_getElem? (i := 1) rfl) rfl rfl dX9_leads_19 ?_
      refine lv_iload hx hb dX9_leads_22 (lv_at hl 0 rfl) ?_
      refine lv_bipush (v := (6 : Int32)) hx hb dX9_leads_24 (by decide) ?_
      refine lv_imul hx hb dX9_leads_26 ?_
      refine lv_iload_n hx hb dX9_leads_27 rfl (lv_at hl 2 rfl) ?_
      refine lv_iadd hx hb dX9_leads_28 ?_
      obtain ⟨z4, h⟩ := h
      refine g_ald ha hw 1 rfl z4 dX9_leads_29 ?_
      refine lv_iload_n hx hb dX9_leads_30 rfl (lv_at hl 3 rfl) ?_
      refine lv_ishr hx hb dX9_leads_31 ?_
      refine lv_iconst (v := (1 : Int32)) hx hb dX9_leads_32 (by decide) ?_
      refine lv_iand hx hb dX9_leads_33 ?_
      refine lv_if_eq (tgt := 41) hx hb dX9_leads_34 (by decide) (fun c5 => ?_) (fun c5 => ?_)
      · have h := h.1 c5
        refine lv_iconst (v := (0 : Int32)) hx hb dX9_leads_41 (by decide) ?_
        exact hr _ _ () _ _ _ dX9_leads_42 ⟨nz0, h⟩ hw
      · have h := h.2 c5
        refine lv_iconst (v := (1 : Int32)) hx hb dX9_leads_37 (by decide) ?_
        refine lv_goto (tgt := 42) hx hb dX9_leads_38 (by decide) ?_
        exact hr _ _ () _ _ _ dX9_leads_42 ⟨nz1, h⟩ hw
theorem hq_X9_learnDoors : yX9_learnDoors.cls = RX9 ∧ yX9_learnDoors.cls ≠ "java/lang/invoke/MethodHandle" ∧ yX9_learnDoors.cls ≠ "java/lang/invoke/VarHandle" ∧ (parseMethodDescriptor yX9_learnDoors.desc).map (fun d => d.parameters.length) = some 3 := by decide +kernel
def w_X9_learnDoors (cy : ClassId) (a_this a_comesTo a_o1 a_o1_beside : Nat) (w_barred w_o1_work w_o1_coats w_o1_needParts : Value) (v_comesTo : IA) (v_o1_rooms : Int32) (v_o1_doors : Int32) (v_o1_needs : Int32) (v_o1_beside : IA) : va_W := [(a_this, .inr (9, [.ref a_comesTo, w_barred])), (a_comesTo, .inl (cy, 192, .inl v_comesTo)), (a_o1, .inr (1, [.int v_o1_rooms, .int v_o1_doors, .int v_o1_needs, w_o1_work, w_o1_coats, .ref a_o1_beside, w_o1_needParts])), (a_o1_beside, .inl (cy, 6, .inl v_o1_beside))]
theorem hi_X9_learnDoors_1 : ∀ w ∈ u_ws RX1 TX1 7, w ∈ wsX9_learnDoors := fun _ h => List.mem_cons_of_mem _ (List.mem_append_left _ (List.mem_append_right _ h))
theorem hi_X9_learnDoors_9 : ∀ w ∈ u_ws RX9 TX9 2, w ∈ wsX9_learnDoors := fun _ h => List.mem_cons_of_mem _ (List.mem_append_right _ h)
def wp_X9_learnDoors_26 (x2 : Int32) (x3 : Int32) (v_o1_beside : IA) (E3 : Int32 → IA → Prop) (K : IA → Prop) (x4 : Int32) (v_comesTo : IA) (t0 : Int32) : Prop := (t0 = 0 → vp_in (x2 + x4) 192 ∧ (E3 (x4 + (1 : Int32)) (upd v_comesTo (x2 + x4).toNatClampNeg (0 : Int32)))) ∧ (¬ (t0 = 0) → vp_in x4 6 ∧ (vp_in (x2 + x4) 192 ∧ (E3 (x4 + (1 : Int32)) (upd v_comesTo (x2 + x4).toNatClampNeg (((v_o1_beside x4.toNatClampNeg) ||| ((1 : Int32) <<< (x4 &&& 31))) &&& x3)))))
set_option maxHeartbeats 4000000 in
set_option maxRecDepth 100000 in
theorem pl_X9_learnDoors_26 {p : Program} {l : Launch} {e : Env} {s : State} {m : MethodId} {args : Array Value} {below : List Frame} {meth : Method} {c : Code} {A : Nat → Prop} {Q : State → Prop} {D : va_G} {cy : ClassId} {a_this a_comesTo a_o1 a_o1_beside : Nat} {w_barred w_o1_work w_o1_coats w_o1_needParts : Value} {v_o1_rooms : Int32} {v_o1_doors : Int32} {v_o1_needs : Int32} {v_o1_beside : IA} {x2 : Int32} {x3 : Int32} {K : IA → Prop} {E3 : Int32 → IA → Prop} (ha : am p s m args c cX9_learnDoors 6 RX9 wsX9_learnDoors D cy A) (hr : rtV p l e { frames := 1, cells := 0, slots := 0, locals := 64 } s m args below meth c 0 0 Q cX9_learnDoors D A (fun (u : IA) => (w_X9_learnDoors cy a_this a_comesTo a_o1 a_o1_beside w_barred w_o1_work w_o1_coats w_o1_needParts u v_o1_rooms v_o1_doors v_o1_needs v_o1_beside)) (fun (u : IA) => K u)) (hE3 : ∀ (x4' : Int32) (v_comesTo' : IA) (H : Heap) (locs : List Loc) (ls : Array Slot), E3 x4' v_comesTo' → wd D A s.heap (w_X9_learnDoors cy a_this a_comesTo a_o1 a_o1_beside w_barred w_o1_work w_o1_coats w_o1_needParts v_comesTo' v_o1_rooms v_o1_doors v_o1_needs v_o1_beside) H locs → lv_has ls 6 [(0, .ref a_this), (1, .ref a_o1), (2, .int x2), (3, .int x3), (4, .int x4')] → W p l e { frames := 1, cells := 0, slots := 0, locals := 64 } s m args below meth c H locs 0 0 Q (F0 m 3 ls [])) {x4 : Int32} {v_comesTo : IA} {t0 : Int32} {H : Heap} {locs : List Loc} {ls : Array Slot} : wp_X9_learnDoors_26 x2 x3 v_o1_beside E3 K x4 v_comesTo t0 → wd D A s.heap (w_X9_learnDoors cy a_this a_comesTo a_o1 a_o1_beside w_barred w_o1_work w_o1_coats w_o1_needParts v_comesTo v_o1_rooms v_o1_doors v_o1_needs v_o1_beside) H locs → lv_has ls 6 [(0, .ref a_this), (1, .ref a_o1), (2, .int x2), (3, .int x3), (4, .int x4)] → W p l e { frames := 1, cells := 0, slots := 0, locals := 64 } s m args below meth c H locs 0 0 Q (F0 m 26 ls [.int t0]) := by
  have hx := ha.1
  have hb := ha.2.1
  intro h hw hl
  have h : (t0 = 0 → vp_in (x2 + x4) 192 ∧ (E3 (x4 + (1 : Int32)) (upd v_comesTo (x2 + x4).toNatClampNeg (0 : Int32)))) ∧ (¬ (t0 = 0) → vp_in x4 6 ∧ (vp_in (x2 + x4) 192 ∧ (E3 (x4 + (1 : Int32)) (upd v_comesTo (x2 + x4).toNatClampNeg (((v_o1_beside x4.toNatClampNeg) ||| ((1 : Int32) <<< (x4 &&& 31))) &&& x3))))) := h
  refine lv_istore (lv' := [(5, .int t0), (0, .ref a_this), (1, .ref a_o1), (2, .int x2), (3, .int x3), (4, .int x4)]) hx hb dX9_learnDoors_26 hl (by decide) rfl (fun ls hl => ?_)
  refine lv_aload_n hx hb dX9_learnDoors_28 rfl (lv_at hl 1 rfl) ?_
  refine g_get (ci := 9) ha hw 0 0 rfl hi_X9_learnDoors_9 (by decide) (List.mem_of_getElem? (i := 1) rfl) rfl rfl dX9_learnDoors_29 ?_
  refine lv_iload_n hx hb dX9_learnDoors_32 rfl (lv_at hl 3 rfl) ?_
  refine lv_iload hx hb dX9_learnDoors_33 (lv_at hl 5 rfl) ?_
  refine lv_iadd hx hb dX9_learnDoors_35 ?_
  refine lv_iload hx hb dX9_learnDoors_36 (lv_at hl 0 rfl) ?_
  refine lv_if_eq (tgt := 58) hx hb dX9_learnDoors_38 (by decide) (fun c3 => ?_) (fun c3 => ?_)
  · have h := h.1 c3
    refine lv_iconst (v := (0 : Int32)) hx hb dX9_learnDoors_58 (by decide) ?_
    obtain ⟨z4, h⟩ := h
    refine g_ast (wn := (w_X9_learnDoors cy a_this a_comesTo a_o1 a_o1_beside w_barred w_o1_work w_o1_coats w_o1_needParts (upd v_comesTo (x2 + x4).toNatClampNeg (0 : Int32)) v_o1_rooms v_o1_doors v_o1_needs v_o1_beside)) ha hw 1 rfl z4 rfl dX9_learnDoors_59 (fun H locs hw => ?_)
    refine lv_iinc (v := x4 + (1 : Int32)) (lv' := [(4, .int (x4 + (1 : Int32))), (5, .int t0), (0, .ref a_this), (1, .ref a_o1), (2, .int x2), (3, .int x3)]) hx hb dX9_learnDoors_60 hl (k := 5) rfl rfl (by decide) rfl (fun ls hl => ?_)
    refine lv_goto (tgt := 3) hx hb dX9_learnDoors_63 (by decide) ?_
    exact hE3 _ _ _ _ _ h hw (lv_sub hl [2, 3, 4, 5, 0] rfl)
  · have h := h.2 c3
    refine lv_aload_n hx hb dX9_learnDoors_41 rfl (lv_at hl 2 rfl) ?_
    refine g_getN (ci := 1) ha hw 2 5 13 rfl hi_X9_learnDoors_1 (by decide) rfl rfl rfl dX9_learnDoors_42 ?_
    refine lv_iload hx hb dX9_learnDoors_45 (lv_at hl 5 rfl) ?_
    obtain ⟨z5, h⟩ := h
    refine g_ald ha hw 3 rfl z5 dX9_learnDoors_47 ?_
    refine lv_iconst (v := (1 : Int32)) hx hb dX9_learnDoors_48 (by decide) ?_
    refine lv_iload hx hb dX9_learnDoors_49 (lv_at hl 5 rfl) ?_
    refine lv_ishl hx hb dX9_learnDoors_51 ?_
    refine lv_ior hx hb dX9_learnDoors_52 ?_
    refine lv_iload_n hx hb dX9_learnDoors_53 rfl (lv_at hl 4 rfl) ?_
    refine lv_iand hx hb dX9_learnDoors_54 ?_
    refine lv_goto (tgt := 59) hx hb dX9_learnDoors_55 (by decide) ?_
    obtain ⟨z6, h⟩ := h
    refine g_ast (wn := (w_X9_learnDoors cy a_this a_comesTo a_o1 a_o1_beside w_barred w_o1_work w_o1_coats w_o1_needParts (upd v_comesTo (x2 + x4).toNatClampNeg (((v_o1_beside x4.toNatClampNeg) ||| ((1 : Int32) <<< (x4 &&& 31))) &&& x3)) v_o1_rooms v_o1_doors v_o1_needs v_o1_beside)) ha hw 1 rfl z6 rfl dX9_learnDoors_59 (fun H locs hw => ?_)
    refine lv_iinc (v := x4 + (1 : Int32)) (lv' := [(4, .int (x4 + (1 : Int32))), (5, .int t0), (0, .ref a_this), (1, .ref a_o1), (2, .int x2), (3, .int x3)]) hx hb dX9_learnDoors_60 hl (k := 5) rfl rfl (by decide) rfl (fun ls hl => ?_)
    refine lv_goto (tgt := 3) hx hb dX9_learnDoors_63 (by decide) ?_
    exact hE3 _ _ _ _ _ h hw (lv_sub hl [2, 3, 4, 5, 0] rfl)
def wp_X9_learnDoors_3 (x2 : Int32) (x3 : Int32) (v_o1_rooms : Int32) (v_o1_beside : IA) (K : IA → Prop) : Nat → Int32 → IA → Prop
  | 0, _, _ => False
  | n + 1, x4, v_comesTo => (v_o1_rooms < x4 → K v_comesTo) ∧ (¬ (v_o1_rooms < x4) → (((x3 >>> (x4 &&& 31)) &&& (1 : Int32)) = 0 → wp_X9_learnDoors_26 x2 x3 v_o1_beside (fun (x4_7 : Int32) (v_comesTo_8 : IA) => wp_X9_learnDoors_3 x2 x3 v_o1_rooms v_o1_beside K n x4_7 v_comesTo_8) K x4 v_comesTo (0 : Int32)) ∧ (¬ (((x3 >>> (x4 &&& 31)) &&& (1 : Int32)) = 0) → wp_X9_learnDoors_26 x2 x3 v_o1_beside (fun (x4_9 : Int32) (v_comesTo_10 : IA) => wp_X9_learnDoors_3 x2 x3 v_o1_rooms v_o1_beside K n x4_9 v_comesTo_10) K x4 v_comesTo (1 : Int32)))
set_option maxHeartbeats 4000000 in
set_option maxRecDepth 100000 in
theorem pl_X9_learnDoors_3 {p : Program} {l : Launch} {e : Env} {s : State} {m : MethodId} {args : Array Value} {below : List Frame} {meth : Method} {c : Code} {A : Nat → Prop} {Q : State → Prop} {D : va_G} {cy : ClassId} {a_this a_comesTo a_o1 a_o1_beside : Nat} {w_barred w_o1_work w_o1_coats w_o1_needParts : Value} {v_o1_rooms : Int32} {v_o1_doors : Int32} {v_o1_needs : Int32} {v_o1_beside : IA} {x2 : Int32} {x3 : Int32} {K : IA → Prop} (ha : am p s m args c cX9_learnDoors 6 RX9 wsX9_learnDoors D cy A) (hr : rtV p l e { frames := 1, cells := 0, slots := 0, locals := 64 } s m args below meth c 0 0 Q cX9_learnDoors D A (fun (u : IA) => (w_X9_learnDoors cy a_this a_comesTo a_o1 a_o1_beside w_barred w_o1_work w_o1_coats w_o1_needParts u v_o1_rooms v_o1_doors v_o1_needs v_o1_beside)) (fun (u : IA) => K u)) : ∀ (n : Nat) (x4 : Int32) (v_comesTo : IA) (H : Heap) (locs : List Loc) (ls : Array Slot), wp_X9_learnDoors_3 x2 x3 v_o1_rooms v_o1_beside K n x4 v_comesTo → wd D A s.heap (w_X9_learnDoors cy a_this a_comesTo a_o1 a_o1_beside w_barred w_o1_work w_o1_coats w_o1_needParts v_comesTo v_o1_rooms v_o1_doors v_o1_needs v_o1_beside) H locs → lv_has ls 6 [(0, .ref a_this), (1, .ref a_o1), (2, .int x2), (3, .int x3), (4, .int x4)] → W p l e { frames := 1, cells := 0, slots := 0, locals := 64 } s m args below meth c H locs 0 0 Q (F0 m 3 ls []) := by
  have hx := ha.1
  have hb := ha.2.1
  intro n
  induction n with
  | zero => exact fun _ _ _ _ _ h _ _ => False.elim h
  | succ n ih =>
    intro x4 v_comesTo H locs ls h hw hl
    have h : (v_o1_rooms < x4 → K v_comesTo) ∧ (¬ (v_o1_rooms < x4) → (((x3 >>> (x4 &&& 31)) &&& (1 : Int32)) = 0 → wp_X9_learnDoors_26 x2 x3 v_o1_beside (fun (x4_7 : Int32) (v_comesTo_8 : IA) => wp_X9_learnDoors_3 x2 x3 v_o1_rooms v_o1_beside K n x4_7 v_comesTo_8) K x4 v_comesTo (0 : Int32)) ∧ (¬ (((x3 >>> (x4 &&& 31)) &&& (1 : Int32)) = 0) → wp_X9_learnDoors_26 x2 x3 v_o1_beside (fun (x4_9 : Int32) (v_comesTo_10 : IA) => wp_X9_learnDoors_3 x2 x3 v_o1_rooms v_o1_beside K n x4_9 v_comesTo_10) K x4 v_comesTo (1 : Int32))) := h
    refine lv_iload hx hb dX9_learnDoors_3 (lv_at hl 4 rfl) ?_
    refine lv_aload_n hx hb dX9_learnDoors_5 rfl (lv_at hl 1 rfl) ?_
    refine g_getN (ci := 1) ha hw 2 0 0 rfl hi_X9_learnDoors_1 (by decide) rfl rfl rfl dX9_learnDoors_6 ?_
    refine lv_icmp_gt (tgt := 66) hx hb dX9_learnDoors_9 (by decide) (fun c1 => ?_) (fun c1 => ?_)
    · have h := h.1 c1
      exact hr _ (v_comesTo) _ _ _ dX9_learnDoors_66 h hw
    · have h := h.2 c1
      refine lv_iload_n hx hb dX9_learnDoors_12 rfl (lv_at hl 3 rfl) ?_
      refine lv_iload hx hb dX9_learnDoors_13 (lv_at hl 4 rfl) ?_
      refine lv_ishr hx hb dX9_learnDoors_15 ?_
      refine lv_iconst (v := (1 : Int32)) hx hb dX9_learnDoors_16 (by decide) ?_
      refine lv_iand hx hb dX9_learnDoors_17 ?_
      refine lv_if_eq (tgt := 25) hx hb dX9_learnDoors_18 (by decide) (fun c2 => ?_) (fun c2 => ?_)
      · have h := h.1 c2
        refine lv_iconst (v := (0 : Int32)) hx hb dX9_learnDoors_25 (by decide) ?_
        refine pl_X9_learnDoors_26 ha hr ?_ h hw (lv_sub hl [0, 1, 2, 3, 4] rfl)
        · intro x4_7 v_comesTo_8 H locs ls h hw hl
          try dsimp only at h
          exact ih _ _ _ _ _ h hw (lv_sub hl [0, 1, 2, 3, 4] rfl)
      · have h := h.2 c2
        refine lv_iconst (v := (1 : Int32)) hx hb dX9_learnDoors_21 (by decide) ?_
        refine lv_goto (tgt := 26) hx hb dX9_learnDoors_22 (by decide) ?_
        refine pl_X9_learnDoors_26 ha hr ?_ h hw (lv_sub hl [0, 1, 2, 3, 4] rfl)
        · intro x4_9 v_comesTo_10 H locs ls h hw hl
          try dsimp only at h
          exact ih _ _ _ _ _ h hw (lv_sub hl [0, 1, 2, 3, 4] rfl)
def wp_X9_learnDoors (x2 : Int32) (x3 : Int32) (v_comesTo : IA) (v_o1_rooms : Int32) (v_o1_beside : IA) (K : IA → Prop) : Prop := ∃ n11 : Nat, wp_X9_learnDoors_3 x2 x3 v_o1_rooms v_o1_beside K n11 (0 : Int32) v_comesTo
set_option maxHeartbeats 4000000 in
set_option maxRecDepth 100000 in
theorem c_X9_learnDoors {l : Launch} {D : va_G} {cy : ClassId} {a_this a_comesTo a_o1 a_o1_beside : Nat} {w_barred w_o1_work w_o1_coats w_o1_needParts : Value} {v_comesTo : IA} {v_o1_rooms : Int32} {v_o1_doors : Int32} {v_o1_needs : Int32} {v_o1_beside : IA} {x2 : Int32} {x3 : Int32} {K : IA → Prop} : CtV l yX9_learnDoors wsX9_learnDoors { frames := 1, cells := 0, slots := 0, locals := 64 } 0 0 D cy [.ref a_this, .ref a_o1, .int x2, .int x3] (w_X9_learnDoors cy a_this a_comesTo a_o1 a_o1_beside w_barred w_o1_work w_o1_coats w_o1_needParts v_comesTo v_o1_rooms v_o1_doors v_o1_needs v_o1_beside) (wp_X9_learnDoors x2 x3 v_comesTo v_o1_rooms v_o1_beside K) (fun (u : IA) => (w_X9_learnDoors cy a_this a_comesTo a_o1 a_o1_beside w_barred w_o1_work w_o1_coats w_o1_needParts u v_o1_rooms v_o1_doors v_o1_needs v_o1_beside)) (fun (u : IA) => K u) := by
  refine CtV.mk (cc := cX9_learnDoors) (nL := 6) (by decide) rfl (Nat.le_of_ble_eq_true rfl) ?_
  intro p e s m args below meth c A Q ha hr _ h ls hl hw
  have ha : am p s m args c cX9_learnDoors 6 RX9 wsX9_learnDoors D cy A := ha
  have hx := ha.1
  have hb := ha.2.1
  have hl : lv_has ls 6 [(0, .ref a_this), (1, .ref a_o1), (2, .int x2), (3, .int x3)] := hl
  have h : ∃ n11 : Nat, wp_X9_learnDoors_3 x2 x3 v_o1_rooms v_o1_beside K n11 (0 : Int32) v_comesTo := h
  refine lv_iconst (v := (0 : Int32)) hx hb dX9_learnDoors_0 (by decide) ?_
  refine lv_istore (lv' := [(4, .int (0 : Int32)), (0, .ref a_this), (1, .ref a_o1), (2, .int x2), (3, .int x3)]) hx hb dX9_learnDoors_1 hl (by decide) rfl (fun ls hl => ?_)
  obtain ⟨n9, h⟩ := h
  refine pl_X9_learnDoors_3 ha hr n9 _ _ _ _ _ h hw (lv_sub hl [1, 2, 3, 4, 0] rfl)
theorem hq_X9_joinWays : yX9_joinWays.cls = RX9 ∧ yX9_joinWays.cls ≠ "java/lang/invoke/MethodHandle" ∧ yX9_joinWays.cls ≠ "java/lang/invoke/VarHandle" ∧ (parseMethodDescriptor yX9_joinWays.desc).map (fun d => d.parameters.length) = some 2 := by decide +kernel
def w_X9_joinWays (cy : ClassId) (a_this a_comesTo : Nat) (w_barred : Value) (v_comesTo : IA) : va_W := [(a_this, .inr (9, [.ref a_comesTo, w_barred])), (a_comesTo, .inl (cy, 192, .inl v_comesTo))]
theorem hi_X9_joinWays_9 : ∀ w ∈ u_ws RX9 TX9 2, w ∈ wsX9_joinWays := fun _ h => List.mem_cons_of_mem _ (List.mem_append_right _ h)
def wp_X9_joinWays_10 (x1 : Int32) (x2 : Int32) (E2 : Int32 → IA → Prop) (K : IA → Prop) : Nat → Int32 → Int32 → IA → Prop
  | 0, _, _, _ => False
  | n + 1, x3, x4, v_comesTo => (x1 < x4 → E2 (x3 + (1 : Int32)) v_comesTo) ∧ (¬ (x1 < x4) → vp_in (x2 + x4) 192 ∧ (((((v_comesTo (x2 + x4).toNatClampNeg) >>> (x3 &&& 31)) &&& (1 : Int32)) = 0 → wp_X9_joinWays_10 x1 x2 E2 K n x3 (x4 + (1 : Int32)) v_comesTo) ∧ (¬ ((((v_comesTo (x2 + x4).toNatClampNeg) >>> (x3 &&& 31)) &&& (1 : Int32)) = 0) → vp_in (x2 + x3) 192 ∧ (wp_X9_joinWays_10 x1 x2 E2 K n x3 (x4 + (1 : Int32)) (upd v_comesTo (x2 + x4).toNatClampNeg ((v_comesTo (x2 + x4).toNatClampNeg) ||| (v_comesTo (x2 + x3).toNatClampNeg)))))))
set_option maxHeartbeats 4000000 in
set_option maxRecDepth 100000 in
theorem pl_X9_joinWays_10 {p : Program} {l : Launch} {e : Env} {s : State} {m : MethodId} {args : Array Value} {below : List Frame} {meth : Method} {c : Code} {A : Nat → Prop} {Q : State → Prop} {D : va_G} {cy : ClassId} {a_this a_comesTo : Nat} {w_barred : Value} {x1 : Int32} {x2 : Int32} {K : IA → Prop} {E2 : Int32 → IA → Prop} (ha : am p s m args c cX9_joinWays 5 RX9 wsX9_joinWays D cy A) (hr : rtV p l e { frames := 1, cells := 0, slots := 0, locals := 64 } s m args below meth c 0 0 Q cX9_joinWays D A (fun (u : IA) => (w_X9_joinWays cy a_this a_comesTo w_barred u)) (fun (u : IA) => K u)) (hE2 : ∀ (x3' : Int32) (v_comesTo' : IA) (H : Heap) (locs : List Loc) (ls : Array Slot), E2 x3' v_comesTo' → wd D A s.heap (w_X9_joinWays cy a_this a_comesTo w_barred v_comesTo') H locs → lv_has ls 5 [(0, .ref a_this), (1, .int x1), (2, .int x2), (3, .int x3')] → W p l e { frames := 1, cells := 0, slots := 0, locals := 64 } s m args below meth c H locs 0 0 Q (F0 m 2 ls [])) : ∀ (n : Nat) (x3 : Int32) (x4 : Int32) (v_comesTo : IA) (H : Heap) (locs : List Loc) (ls : Array Slot), wp_X9_joinWays_10 x1 x2 E2 K n x3 x4 v_comesTo → wd D A s.heap (w_X9_joinWays cy a_this a_comesTo w_barred v_comesTo) H locs → lv_has ls 5 [(0, .ref a_this), (1, .int x1), (2, .int x2), (3, .int x3), (4, .int x4)] → W p l e { frames := 1, cells := 0, slots := 0, locals := 64 } s m args below meth c H locs 0 0 Q (F0 m 10 ls []) := by
  have hx := ha.1
  have hb := ha.2.1
  intro n
  induction n with
  | zero => exact fun _ _ _ _ _ _ h _ _ => False.elim h
  | succ n ih =>
    intro x3 x4 v_comesTo H locs ls h hw hl
    have h : (x1 < x4 → E2 (x3 + (1 : Int32)) v_comesTo) ∧ (¬ (x1 < x4) → vp_in (x2 + x4) 192 ∧ (((((v_comesTo (x2 + x4).toNatClampNeg) >>> (x3 &&& 31)) &&& (1 : Int32)) = 0 → wp_X9_joinWays_10 x1 x2 E2 K n x3 (x4 + (1 : Int32)) v_comesTo) ∧ (¬ ((((v_comesTo (x2 + x4).toNatClampNeg) >>> (x3 &&& 31)) &&& (1 : Int32)) = 0) → vp_in (x2 + x3) 192 ∧ (wp_X9_joinWays_10 x1 x2 E2 K n x3 (x4 + (1 : Int32)) (upd v_comesTo (x2 + x4).toNatClampNeg ((v_comesTo (x2 + x4).toNatClampNeg) ||| (v_comesTo (x2 + x3).toNatClampNeg))))))) := h
    refine lv_iload hx hb dX9_joinWays_10 (lv_at hl 4 rfl) ?_
    refine lv_iload_n hx hb dX9_joinWays_12 rfl (lv_at hl 1 rfl) ?_
    refine lv_icmp_gt (tgt := 58) hx hb dX9_joinWays_13 (by decide) (fun c2 => ?_) (fun c2 => ?_)
    · have h := h.1 c2
      refine lv_iinc (v := x3 + (1 : Int32)) (lv' := [(3, .int (x3 + (1 : Int32))), (0, .ref a_this), (1, .int x1), (2, .int x2), (4, .int x4)]) hx hb dX9_joinWays_58 hl (k := 3) rfl rfl (by decide) rfl (fun ls hl => ?_)
      refine lv_goto (tgt := 2) hx hb dX9_joinWays_61 (by decide) ?_
      exact hE2 _ _ _ _ _ h hw (lv_sub hl [1, 2, 3, 0] rfl)
    · have h := h.2 c2
      refine lv_aload_n hx hb dX9_joinWays_16 rfl (lv_at hl 0 rfl) ?_
      refine g_get (ci := 9) ha hw 0 0 rfl hi_X9_joinWays_9 (by decide) (List.mem_of_getElem? (i := 1) rfl) rfl rfl dX9_joinWays_17 ?_
      refine lv_iload_n hx hb dX9_joinWays_20 rfl (lv_at hl 2 rfl) ?_
      refine lv_iload hx hb dX9_joinWays_21 (lv_at hl 4 rfl) ?_
      refine lv_iadd hx hb dX9_joinWays_23 ?_
      obtain ⟨z3, h⟩ := h
      refine g_ald ha hw 1 rfl z3 dX9_joinWays_24 ?_
      refine lv_iload_n hx hb dX9_joinWays_25 rfl (lv_at hl 3 rfl) ?_
      refine lv_ishr hx hb dX9_joinWays_26 ?_
      refine lv_iconst (v := (1 : Int32)) hx hb dX9_joinWays_27 (by decide) ?_
      refine lv_iand hx hb dX9_joinWays_28 ?_
      refine lv_if_eq (tgt := 52) hx hb dX9_joinWays_29 (by decide) (fun c4 => ?_) (fun c4 => ?_)
      · have h := h.1 c4
        refine lv_iinc (v := x4 + (1 : Int32)) (lv' := [(4, .int (x4 + (1 : Int32))), (0, .ref a_this), (1, .int x1), (2, .int x2), (3, .int x3)]) hx hb dX9_joinWays_52 hl (k := 4) rfl rfl (by decide) rfl (fun ls hl => ?_)
        refine lv_goto (tgt := 10) hx hb dX9_joinWays_55 (by decide) ?_
        exact ih _ _ _ _ _ _ h hw (lv_sub hl [1, 2, 3, 4, 0] rfl)
      · have h := h.2 c4
        refine lv_aload_n hx hb dX9_joinWays_32 rfl (lv_at hl 0 rfl) ?_
        refine g_get (ci := 9) ha hw 0 0 rfl hi_X9_joinWays_9 (by decide) (List.mem_of_getElem? (i := 1) rfl) rfl rfl dX9_joinWays_33 ?_
        refine lv_iload_n hx hb dX9_joinWays_36 rfl (lv_at hl 2 rfl) ?_
        refine lv_iload hx hb dX9_joinWays_37 (lv_at hl 4 rfl) ?_
        refine lv_iadd hx hb dX9_joinWays_39 ?_
        refine lv_dup2_11 hx hb dX9_joinWays_40 rfl rfl ?_
        refine g_ald ha hw 1 rfl z3 dX9_joinWays_41 ?_
        refine lv_aload_n hx hb dX9_joinWays_42 rfl (lv_at hl 0 rfl) ?_
        refine g_get (ci := 9) ha hw 0 0 rfl hi_X9_joinWays_9 (by decide) (List.mem_of_getElem? (i := 1) rfl) rfl rfl dX9_joinWays_43 ?_
        refine lv_iload_n hx hb dX9_joinWays_46 rfl (lv_at hl 2 rfl) ?_
        refine lv_iload_n hx hb dX9_joinWays_47 rfl (lv_at hl 3 rfl) ?_
        refine lv_iadd hx hb dX9_joinWays_48 ?_
        obtain ⟨z5, h⟩ := h
        refine g_ald ha hw 1 rfl z5 dX9_joinWays_49 ?_
        refine lv_ior hx hb dX9_joinWays_50 ?_
        refine g_ast (wn := (w_X9_joinWays cy a_this a_comesTo w_barred (upd v_comesTo (x2 + x4).toNatClampNeg ((v_comesTo (x2 + x4).toNatClampNeg) ||| (v_comesTo (x2 + x3).toNatClampNeg))))) ha hw 1 rfl z3 rfl dX9_joinWays_51 (fun H locs hw => ?_)
        refine lv_iinc (v := x4 + (1 : Int32)) (lv' := [(4, .int (x4 + (1 : Int32))), (0, .ref a_this), (1, .int x1), (2, .int x2), (3, .int x3)]) hx hb dX9_joinWays_52 hl (k := 4) rfl rfl (by decide) rfl (fun ls hl => ?_)
        refine lv_goto (tgt := 10) hx hb dX9_joinWays_55 (by decide) ?_
        exact ih _ _ _ _ _ _ h hw (lv_sub hl [1, 2, 3, 4, 0] rfl)
def wp_X9_joinWays_2 (x1 : Int32) (x2 : Int32) (K : IA → Prop) : Nat → Int32 → IA → Prop
  | 0, _, _ => False
  | n + 1, x3, v_comesTo => (x1 < x3 → K v_comesTo) ∧ (¬ (x1 < x3) → ∃ n8 : Nat, wp_X9_joinWays_10 x1 x2 (fun (x3_6 : Int32) (v_comesTo_7 : IA) => wp_X9_joinWays_2 x1 x2 K n x3_6 v_comesTo_7) K n8 x3 (0 : Int32) v_comesTo)
set_option maxHeartbeats 4000000 in
set_option maxRecDepth 100000 in
theorem pl_X9_joinWays_2 {p : Program} {l : Launch} {e : Env} {s : State} {m : MethodId} {args : Array Value} {below : List Frame} {meth : Method} {c : Code} {A : Nat → Prop} {Q : State → Prop} {D : va_G} {cy : ClassId} {a_this a_comesTo : Nat} {w_barred : Value} {x1 : Int32} {x2 : Int32} {K : IA → Prop} (ha : am p s m args c cX9_joinWays 5 RX9 wsX9_joinWays D cy A) (hr : rtV p l e { frames := 1, cells := 0, slots := 0, locals := 64 } s m args below meth c 0 0 Q cX9_joinWays D A (fun (u : IA) => (w_X9_joinWays cy a_this a_comesTo w_barred u)) (fun (u : IA) => K u)) : ∀ (n : Nat) (x3 : Int32) (v_comesTo : IA) (H : Heap) (locs : List Loc) (ls : Array Slot), wp_X9_joinWays_2 x1 x2 K n x3 v_comesTo → wd D A s.heap (w_X9_joinWays cy a_this a_comesTo w_barred v_comesTo) H locs → lv_has ls 5 [(0, .ref a_this), (1, .int x1), (2, .int x2), (3, .int x3)] → W p l e { frames := 1, cells := 0, slots := 0, locals := 64 } s m args below meth c H locs 0 0 Q (F0 m 2 ls []) := by
  have hx := ha.1
  have hb := ha.2.1
  intro n
  induction n with
  | zero => exact fun _ _ _ _ _ h _ _ => False.elim h
  | succ n ih =>
    intro x3 v_comesTo H locs ls h hw hl
    have h : (x1 < x3 → K v_comesTo) ∧ (¬ (x1 < x3) → ∃ n8 : Nat, wp_X9_joinWays_10 x1 x2 (fun (x3_6 : Int32) (v_comesTo_7 : IA) => wp_X9_joinWays_2 x1 x2 K n x3_6 v_comesTo_7) K n8 x3 (0 : Int32) v_comesTo) := h
    refine lv_iload_n hx hb dX9_joinWays_2 rfl (lv_at hl 3 rfl) ?_
    refine lv_iload_n hx hb dX9_joinWays_3 rfl (lv_at hl 1 rfl) ?_
    refine lv_icmp_gt (tgt := 64) hx hb dX9_joinWays_4 (by decide) (fun c1 => ?_) (fun c1 => ?_)
    · have h := h.1 c1
      exact hr _ (v_comesTo) _ _ _ dX9_joinWays_64 h hw
    · have h := h.2 c1
      refine lv_iconst (v := (0 : Int32)) hx hb dX9_joinWays_7 (by decide) ?_
      refine lv_istore (lv' := [(4, .int (0 : Int32)), (0, .ref a_this), (1, .int x1), (2, .int x2), (3, .int x3)]) hx hb dX9_joinWays_8 hl (by decide) rfl (fun ls hl => ?_)
      obtain ⟨n9, h⟩ := h
      refine pl_X9_joinWays_10 ha hr ?_ n9 _ _ _ _ _ _ h hw (lv_sub hl [1, 2, 3, 4, 0] rfl)
      · intro x3_6 v_comesTo_7 H locs ls h hw hl
        try dsimp only at h
        exact ih _ _ _ _ _ h hw (lv_sub hl [0, 1, 2, 3] rfl)
def wp_X9_joinWays (x1 : Int32) (x2 : Int32) (v_comesTo : IA) (K : IA → Prop) : Prop := ∃ n9 : Nat, wp_X9_joinWays_2 x1 x2 K n9 (0 : Int32) v_comesTo
set_option maxHeartbeats 4000000 in
set_option maxRecDepth 100000 in
theorem c_X9_joinWays {l : Launch} {D : va_G} {cy : ClassId} {a_this a_comesTo : Nat} {w_barred : Value} {v_comesTo : IA} {x1 : Int32} {x2 : Int32} {K : IA → Prop} : CtV l yX9_joinWays wsX9_joinWays { frames := 1, cells := 0, slots := 0, locals := 64 } 0 0 D cy [.ref a_this, .int x1, .int x2] (w_X9_joinWays cy a_this a_comesTo w_barred v_comesTo) (wp_X9_joinWays x1 x2 v_comesTo K) (fun (u : IA) => (w_X9_joinWays cy a_this a_comesTo w_barred u)) (fun (u : IA) => K u) := by
  refine CtV.mk (cc := cX9_joinWays) (nL := 5) (by decide) rfl (Nat.le_of_ble_eq_true rfl) ?_
  intro p e s m args below meth c A Q ha hr _ h ls hl hw
  have ha : am p s m args c cX9_joinWays 5 RX9 wsX9_joinWays D cy A := ha
  have hx := ha.1
  have hb := ha.2.1
  have hl : lv_has ls 5 [(0, .ref a_this), (1, .int x1), (2, .int x2)] := hl
  have h : ∃ n9 : Nat, wp_X9_joinWays_2 x1 x2 K n9 (0 : Int32) v_comesTo := h
  refine lv_iconst (v := (0 : Int32)) hx hb dX9_joinWays_0 (by decide) ?_
  refine lv_istore_n (lv' := [(3, .int (0 : Int32)), (0, .ref a_this), (1, .int x1), (2, .int x2)]) hx hb dX9_joinWays_1 rfl hl (by decide) rfl (fun ls hl => ?_)
  obtain ⟨n9, h⟩ := h
  refine pl_X9_joinWays_2 ha hr n9 _ _ _ _ _ h hw (lv_sub hl [1, 2, 3, 0] rfl)
theorem hq_X9_barredIn : yX9_barredIn.cls = RX9 ∧ yX9_barredIn.cls ≠ "java/lang/invoke/MethodHandle" ∧ yX9_barredIn.cls ≠ "java/lang/invoke/VarHandle" ∧ (parseMethodDescriptor yX9_barredIn.desc).map (fun d => d.parameters.length) = some 2 := by decide +kernel
def w_X9_barredIn (cy : ClassId) (a_this a_comesTo a_o1 a_o1_needParts : Nat) (w_barred w_o1_work w_o1_coats w_o1_beside : Value) (v_comesTo : IA) (v_o1_rooms : Int32) (v_o1_doors : Int32) (v_o1_needs : Int32) (v_o1_needParts : IA) : va_W := [(a_this, .inr (9, [.ref a_comesTo, w_barred])), (a_comesTo, .inl (cy, 192, .inl v_comesTo)), (a_o1, .inr (1, [.int v_o1_rooms, .int v_o1_doors, .int v_o1_needs, w_o1_work, w_o1_coats, w_o1_beside, .ref a_o1_needParts])), (a_o1_needParts, .inl (cy, 32, .inl v_o1_needParts))]
theorem hi_X9_barredIn_1 : ∀ w ∈ u_ws RX1 TX1 7, w ∈ wsX9_barredIn := fun _ h => List.mem_cons_of_mem _ (List.mem_append_left _ (List.mem_append_right _ h))
theorem hi_X9_barredIn_9 : ∀ w ∈ u_ws RX9 TX9 2, w ∈ wsX9_barredIn := fun _ h => List.mem_cons_of_mem _ (List.mem_append_right _ h)
def wp_X9_barredIn_5 (x2 : Int32) (v_comesTo : IA) (v_o1_needs : Int32) (v_o1_needParts : IA) (K : Int32 → Prop) : Nat → Int32 → Int32 → Prop
  | 0, _, _ => False
  | n + 1, x3, x4 => (v_o1_needs ≤ x4 → K x3) ∧ (¬ (v_o1_needs ≤ x4) → wp_X1_needPart x4 (0 : Int32) v_o1_needParts (fun (r2 : Int32) => vp_in (x2 + r2) 192 ∧ (∀ x5_4 : Int32, x5_4 = v_comesTo (x2 + r2).toNatClampNeg → wp_X1_needPart x4 (1 : Int32) v_o1_needParts (fun (r5 : Int32) => (((x5_4 >>> (r5 &&& 31)) &&& (1 : Int32)) = 0 → ∀ x3_7 : Int32, x3_7 = x3 ||| ((1 : Int32) <<< (x4 &&& 31)) → wp_X9_barredIn_5 x2 v_comesTo v_o1_needs v_o1_needParts K n x3_7 (x4 + (1 : Int32))) ∧ (¬ (((x5_4 >>> (r5 &&& 31)) &&& (1 : Int32)) = 0) → wp_X9_barredIn_5 x2 v_comesTo v_o1_needs v_o1_needParts K n x3 (x4 + (1 : Int32)))))))
set_option maxHeartbeats 4000000 in
set_option maxRecDepth 100000 in
theorem pl_X9_barredIn_5 {p : Program} {l : Launch} {e : Env} {s : State} {m : MethodId} {args : Array Value} {below : List Frame} {meth : Method} {c : Code} {A : Nat → Prop} {Q : State → Prop} {D : va_G} {cy : ClassId} {a_this a_comesTo a_o1 a_o1_needParts : Nat} {w_barred w_o1_work w_o1_coats w_o1_beside : Value} {v_comesTo : IA} {v_o1_rooms : Int32} {v_o1_doors : Int32} {v_o1_needs : Int32} {v_o1_needParts : IA} {x2 : Int32} {K : Int32 → Prop} (ha : am p s m args c cX9_barredIn 6 RX9 wsX9_barredIn D cy A) (hr : rtI p l e { frames := 2, cells := 0, slots := 0, locals := 150 } s m args below meth c 0 0 Q cX9_barredIn D A (fun (u : Unit) => (w_X9_barredIn cy a_this a_comesTo a_o1 a_o1_needParts w_barred w_o1_work w_o1_coats w_o1_beside v_comesTo v_o1_rooms v_o1_doors v_o1_needs v_o1_needParts)) (fun (r : Int32) (u : Unit) => K r)) : ∀ (n : Nat) (x3 : Int32) (x4 : Int32) (H : Heap) (locs : List Loc) (ls : Array Slot), wp_X9_barredIn_5 x2 v_comesTo v_o1_needs v_o1_needParts K n x3 x4 → wd D A s.heap (w_X9_barredIn cy a_this a_comesTo a_o1 a_o1_needParts w_barred w_o1_work w_o1_coats w_o1_beside v_comesTo v_o1_rooms v_o1_doors v_o1_needs v_o1_needParts) H locs → lv_has ls 6 [(0, .ref a_this), (1, .ref a_o1), (2, .int x2), (3, .int x3), (4, .int x4)] → W p l e { frames := 2, cells := 0, slots := 0, locals := 150 } s m args below meth c H locs 0 0 Q (F0 m 5 ls []) := by
  have hx := ha.1
  have hb := ha.2.1
  intro n
  induction n with
  | zero => exact fun _ _ _ _ _ h _ _ => False.elim h
  | succ n ih =>
    intro x3 x4 H locs ls h hw hl
    have h : (v_o1_needs ≤ x4 → K x3) ∧ (¬ (v_o1_needs ≤ x4) → wp_X1_needPart x4 (0 : Int32) v_o1_needParts (fun (r2 : Int32) => vp_in (x2 + r2) 192 ∧ (∀ x5_4 : Int32, x5_4 = v_comesTo (x2 + r2).toNatClampNeg → wp_X1_needPart x4 (1 : Int32) v_o1_needParts (fun (r5 : Int32) => (((x5_4 >>> (r5 &&& 31)) &&& (1 : Int32)) = 0 → ∀ x3_7 : Int32, x3_7 = x3 ||| ((1 : Int32) <<< (x4 &&& 31)) → wp_X9_barredIn_5 x2 v_comesTo v_o1_needs v_o1_needParts K n x3_7 (x4 + (1 : Int32))) ∧ (¬ (((x5_4 >>> (r5 &&& 31)) &&& (1 : Int32)) = 0) → wp_X9_barredIn_5 x2 v_comesTo v_o1_needs v_o1_needParts K n x3 (x4 + (1 : Int32))))))) := h
    refine lv_iload hx hb dX9_barredIn_5 (lv_at hl 4 rfl) ?_
    refine lv_aload_n hx hb dX9_barredIn_7 rfl (lv_at hl 1 rfl) ?_
    refine g_getN (ci := 1) ha hw 2 2 5 rfl hi_X9_barredIn_1 (by decide) rfl rfl rfl dX9_barredIn_8 ?_
    refine lv_icmp_ge (tgt := 58) hx hb dX9_barredIn_11 (by decide) (fun c1 => ?_) (fun c1 => ?_)
    · have h := h.1 c1
      refine lv_iload_n hx hb dX9_barredIn_58 rfl (lv_at hl 3 rfl) ?_
      exact hr _ _ () _ _ _ dX9_barredIn_59 h hw
    · have h := h.2 c1
      refine lv_aload_n hx hb dX9_barredIn_14 rfl (lv_at hl 0 rfl) ?_
      refine g_get (ci := 9) ha hw 0 0 rfl hi_X9_barredIn_9 (by decide) (List.mem_of_getElem? (i := 1) rfl) rfl rfl dX9_barredIn_15 ?_
      refine lv_iload_n hx hb dX9_barredIn_18 rfl (lv_at hl 2 rfl) ?_
      refine lv_aload_n hx hb dX9_barredIn_19 rfl (lv_at hl 1 rfl) ?_
      refine lv_iload hx hb dX9_barredIn_20 (lv_at hl 4 rfl) ?_
      refine lv_iconst (v := (0 : Int32)) hx hb dX9_barredIn_22 (by decide) ?_
      refine g_cvi (rm := { frames := 1, cells := 0, slots := 0, locals := 64 }) (wn := (fun (u : Unit) => (w_X9_barredIn cy a_this a_comesTo a_o1 a_o1_needParts w_barred w_o1_work w_o1_coats w_o1_beside v_comesTo v_o1_rooms v_o1_doors v_o1_needs v_o1_needParts))) (As := [.int x4, .int (0 : Int32)]) ha hw hl.1 (c_X1_needPart (cy := cy)) (cwV 2 ha.2.2.2.2.1 gX9_barredIn_X1_needPart rfl rfl rfl hq_X1_needPart ⟨Nat.le_of_ble_eq_true rfl, Nat.le_of_ble_eq_true rfl⟩) [2, 3] [0, 1] [0, 1, 2, 3] rfl rfl rfl rfl (by decide) rfl (fun _ => rfl) rfl rfl h rfl rfl (Nat.le_of_ble_eq_true rfl) dX9_barredIn_23 ⟨Nat.le_refl _, Nat.le_refl _⟩ (fun r2 u H locs h hw => ?_)
      have hw : wd D A s.heap (w_X9_barredIn cy a_this a_comesTo a_o1 a_o1_needParts w_barred w_o1_work w_o1_coats w_o1_beside v_comesTo v_o1_rooms v_o1_doors v_o1_needs v_o1_needParts) H locs := hw
      try dsimp only at h
      refine lv_iadd hx hb dX9_barredIn_26 ?_
      obtain ⟨z3, h⟩ := h
      refine g_ald ha hw 1 rfl z3 dX9_barredIn_27 ?_
      refine lv_topi (fun x5_4 ex5_4 => ?_)
      have h := h x5_4 ex5_4
      refine lv_istore (lv' := [(5, .int x5_4), (0, .ref a_this), (1, .ref a_o1), (2, .int x2), (3, .int x3), (4, .int x4)]) hx hb dX9_barredIn_28 hl (by decide) rfl (fun ls hl => ?_)
      refine lv_iload hx hb dX9_barredIn_30 (lv_at hl 0 rfl) ?_
      refine lv_aload_n hx hb dX9_barredIn_32 rfl (lv_at hl 2 rfl) ?_
      refine lv_iload hx hb dX9_barredIn_33 (lv_at hl 5 rfl) ?_
      refine lv_iconst (v := (1 : Int32)) hx hb dX9_barredIn_35 (by decide) ?_
      refine g_cvi (rm := { frames := 1, cells := 0, slots := 0, locals := 64 }) (wn := (fun (u : Unit) => (w_X9_barredIn cy a_this a_comesTo a_o1 a_o1_needParts w_barred w_o1_work w_o1_coats w_o1_beside v_comesTo v_o1_rooms v_o1_doors v_o1_needs v_o1_needParts))) (As := [.int x4, .int (1 : Int32)]) ha hw hl.1 (c_X1_needPart (cy := cy)) (cwV 2 ha.2.2.2.2.1 gX9_barredIn_X1_needPart rfl rfl rfl hq_X1_needPart ⟨Nat.le_of_ble_eq_true rfl, Nat.le_of_ble_eq_true rfl⟩) [2, 3] [0, 1] [0, 1, 2, 3] rfl rfl rfl rfl (by decide) rfl (fun _ => rfl) rfl rfl h rfl rfl (Nat.le_of_ble_eq_true rfl) dX9_barredIn_36 ⟨Nat.le_refl _, Nat.le_refl _⟩ (fun r5 u H locs h hw => ?_)
      have hw : wd D A s.heap (w_X9_barredIn cy a_this a_comesTo a_o1 a_o1_needParts w_barred w_o1_work w_o1_coats w_o1_beside v_comesTo v_o1_rooms v_o1_doors v_o1_needs v_o1_needParts) H locs := hw
      try dsimp only at h
      refine lv_ishr hx hb dX9_barredIn_39 ?_
      refine lv_iconst (v := (1 : Int32)) hx hb dX9_barredIn_40 (by decide) ?_
      refine lv_iand hx hb dX9_barredIn_41 ?_
      refine lv_if_ne (tgt := 52) hx hb dX9_barredIn_42 (by decide) (fun c6 => ?_) (fun c6 => ?_)
      · have h := h.2 c6
        refine lv_iinc (v := x4 + (1 : Int32)) (lv' := [(4, .int (x4 + (1 : Int32))), (5, .int x5_4), (0, .ref a_this), (1, .ref a_o1), (2, .int x2), (3, .int x3)]) hx hb dX9_barredIn_52 hl (k := 5) rfl rfl (by decide) rfl (fun ls hl => ?_)
        refine lv_goto (tgt := 5) hx hb dX9_barredIn_55 (by decide) ?_
        exact ih _ _ _ _ _ h hw (lv_sub hl [2, 3, 4, 5, 0] rfl)
      · have h := h.1 c6
        refine lv_iload_n hx hb dX9_barredIn_45 rfl (lv_at hl 4 rfl) ?_
        refine lv_iconst (v := (1 : Int32)) hx hb dX9_barredIn_46 (by decide) ?_
        refine lv_iload hx hb dX9_barredIn_47 (lv_at hl 5 rfl) ?_
        refine lv_ishl hx hb dX9_barredIn_49 ?_
        refine lv_ior hx hb dX9_barredIn_50 ?_
        refine lv_topi (fun x3_7 ex3_7 => ?_)
        have h := h x3_7 ex3_7
        refine lv_istore_n (lv' := [(3, .int x3_7), (5, .int x5_4), (0, .ref a_this), (1, .ref a_o1), (2, .int x2), (4, .int x4)]) hx hb dX9_barredIn_51 rfl hl (by decide) rfl (fun ls hl => ?_)
        refine lv_iinc (v := x4 + (1 : Int32)) (lv' := [(4, .int (x4 + (1 : Int32))), (3, .int x3_7), (5, .int x5_4), (0, .ref a_this), (1, .ref a_o1), (2, .int x2)]) hx hb dX9_barredIn_52 hl (k := 5) rfl rfl (by decide) rfl (fun ls hl => ?_)
        refine lv_goto (tgt := 5) hx hb dX9_barredIn_55 (by decide) ?_
        exact ih _ _ _ _ _ h hw (lv_sub hl [3, 4, 5, 1, 0] rfl)
def wp_X9_barredIn (x2 : Int32) (v_comesTo : IA) (v_o1_needs : Int32) (v_o1_needParts : IA) (K : Int32 → Prop) : Prop := ∃ n8 : Nat, wp_X9_barredIn_5 x2 v_comesTo v_o1_needs v_o1_needParts K n8 (0 : Int32) (0 : Int32)
set_option maxHeartbeats 4000000 in
set_option maxRecDepth 100000 in
theorem c_X9_barredIn {l : Launch} {D : va_G} {cy : ClassId} {a_this a_comesTo a_o1 a_o1_needParts : Nat} {w_barred w_o1_work w_o1_coats w_o1_beside : Value} {v_comesTo : IA} {v_o1_rooms : Int32} {v_o1_doors : Int32} {v_o1_needs : Int32} {v_o1_needParts : IA} {x2 : Int32} {K : Int32 → Prop} : CtI l yX9_barredIn wsX9_barredIn { frames := 2, cells := 0, slots := 0, locals := 150 } 0 0 D cy [.ref a_this, .ref a_o1, .int x2] (w_X9_barredIn cy a_this a_comesTo a_o1 a_o1_needParts w_barred w_o1_work w_o1_coats w_o1_beside v_comesTo v_o1_rooms v_o1_doors v_o1_needs v_o1_needParts) (wp_X9_barredIn x2 v_comesTo v_o1_needs v_o1_needParts K) (fun (u : Unit) => (w_X9_barredIn cy a_this a_comesTo a_o1 a_o1_needParts w_barred w_o1_work w_o1_coats w_o1_beside v_comesTo v_o1_rooms v_o1_doors v_o1_needs v_o1_needParts)) (fun (r : Int32) (u : Unit) => K r) := by
  refine CtI.mk (cc := cX9_barredIn) (nL := 6) (ty := .int) (by decide) rfl (Nat.le_of_ble_eq_true rfl) (fun r u h => rfl) ?_
  intro p e s m args below meth c A Q ha hr _ h ls hl hw
  have ha : am p s m args c cX9_barredIn 6 RX9 wsX9_barredIn D cy A := ha
  have hx := ha.1
  have hb := ha.2.1
  have hl : lv_has ls 6 [(0, .ref a_this), (1, .ref a_o1), (2, .int x2)] := hl
  have h : ∃ n8 : Nat, wp_X9_barredIn_5 x2 v_comesTo v_o1_needs v_o1_needParts K n8 (0 : Int32) (0 : Int32) := h
  refine lv_iconst (v := (0 : Int32)) hx hb dX9_barredIn_0 (by decide) ?_
  refine lv_istore_n (lv' := [(3, .int (0 : Int32)), (0, .ref a_this), (1, .ref a_o1), (2, .int x2)]) hx hb dX9_barredIn_1 rfl hl (by decide) rfl (fun ls hl => ?_)
  refine lv_iconst (v := (0 : Int32)) hx hb dX9_barredIn_2 (by decide) ?_
  refine lv_istore (lv' := [(4, .int (0 : Int32)), (3, .int (0 : Int32)), (0, .ref a_this), (1, .ref a_o1), (2, .int x2)]) hx hb dX9_barredIn_3 hl (by decide) rfl (fun ls hl => ?_)
  obtain ⟨n9, h⟩ := h
  refine pl_X9_barredIn_5 ha hr n9 _ _ _ _ _ h hw (lv_sub hl [2, 3, 4, 1, 0] rfl)
theorem hq_X9_learn : yX9_learn.cls = RX9 ∧ yX9_learn.cls ≠ "java/lang/invoke/MethodHandle" ∧ yX9_learn.cls ≠ "java/lang/invoke/VarHandle" ∧ (parseMethodDescriptor yX9_learn.desc).map (fun d => d.parameters.length) = some 1 := by decide +kernel
def w_X9_learn (cy : ClassId) (a_this a_comesTo a_barred a_o1 a_o1_beside a_o1_needParts : Nat) (w_o1_work w_o1_coats : Value) (v_comesTo : IA) (v_barred : IA) (v_o1_rooms : Int32) (v_o1_doors : Int32) (v_o1_needs : Int32) (v_o1_beside : IA) (v_o1_needParts : IA) : va_W := [(a_this, .inr (9, [.ref a_comesTo, .ref a_barred])), (a_comesTo, .inl (cy, 192, .inl v_comesTo)), (a_barred, .inl (cy, 32, .inl v_barred)), (a_o1, .inr (1, [.int v_o1_rooms, .int v_o1_doors, .int v_o1_needs, w_o1_work, w_o1_coats, .ref a_o1_beside, .ref a_o1_needParts])), (a_o1_beside, .inl (cy, 6, .inl v_o1_beside)), (a_o1_needParts, .inl (cy, 32, .inl v_o1_needParts))]
theorem hi_X9_learn_1 : ∀ w ∈ u_ws RX1 TX1 7, w ∈ wsX9_learn := fun _ h => List.mem_cons_of_mem _ (List.mem_append_left _ (List.mem_append_right _ h))
theorem hi_X9_learn_9 : ∀ w ∈ u_ws RX9 TX9 2, w ∈ wsX9_learn := fun _ h => List.mem_cons_of_mem _ (List.mem_append_right _ h)
def wp_X9_learn_9 (x2 : Int32) (v_o1_rooms : Int32) (v_o1_needs : Int32) (v_o1_beside : IA) (v_o1_needParts : IA) (K : IA → IA → Prop) : Nat → Int32 → IA → IA → Prop
  | 0, _, _, _ => False
  | n + 1, x3, v_comesTo, v_barred => (x2 ≤ x3 → K v_comesTo v_barred) ∧ (¬ (x2 ≤ x3) → ((32 : Int32) ≤ x3 → K v_comesTo v_barred) ∧ (¬ ((32 : Int32) ≤ x3) → ∀ x4_4 : Int32, x4_4 = x3 * (6 : Int32) → wp_X1_everyPlace v_o1_rooms (fun (r5 : Int32) => wp_X9_learnDoors x4_4 (r5 &&& ((x3 <<< ((1 : Int32) &&& 31)) ^^^ (-1 : Int32))) v_comesTo v_o1_rooms v_o1_beside (fun (v_comesTo_6 : IA) => wp_X9_joinWays v_o1_rooms x4_4 v_comesTo_6 (fun (v_comesTo_7 : IA) => wp_X9_barredIn x4_4 v_comesTo_7 v_o1_needs v_o1_needParts (fun (r8 : Int32) => vp_in x3 32 ∧ (wp_X9_learn_9 x2 v_o1_rooms v_o1_needs v_o1_beside v_o1_needParts K n (x3 + (1 : Int32)) v_comesTo_7 (upd v_barred x3.toNatClampNeg r8))))))))
set_option maxHeartbeats 4000000 in
set_option maxRecDepth 100000 in
theorem pl_X9_learn_9 {p : Program} {l : Launch} {e : Env} {s : State} {m : MethodId} {args : Array Value} {below : List Frame} {meth : Method} {c : Code} {A : Nat → Prop} {Q : State → Prop} {D : va_G} {cy : ClassId} {a_this a_comesTo a_barred a_o1 a_o1_beside a_o1_needParts : Nat} {w_o1_work w_o1_coats : Value} {v_o1_rooms : Int32} {v_o1_doors : Int32} {v_o1_needs : Int32} {v_o1_beside : IA} {v_o1_needParts : IA} {x2 : Int32} {K : IA → IA → Prop} (ha : am p s m args c cX9_learn 5 RX9 wsX9_learn D cy A) (hr : rtV p l e { frames := 3, cells := 0, slots := 0, locals := 239 } s m args below meth c 0 0 Q cX9_learn D A (fun (u : IA × IA) => (w_X9_learn cy a_this a_comesTo a_barred a_o1 a_o1_beside a_o1_needParts w_o1_work w_o1_coats u.1 u.2 v_o1_rooms v_o1_doors v_o1_needs v_o1_beside v_o1_needParts)) (fun (u : IA × IA) => K u.1 u.2)) : ∀ (n : Nat) (x3 : Int32) (v_comesTo : IA) (v_barred : IA) (H : Heap) (locs : List Loc) (ls : Array Slot), wp_X9_learn_9 x2 v_o1_rooms v_o1_needs v_o1_beside v_o1_needParts K n x3 v_comesTo v_barred → wd D A s.heap (w_X9_learn cy a_this a_comesTo a_barred a_o1 a_o1_beside a_o1_needParts w_o1_work w_o1_coats v_comesTo v_barred v_o1_rooms v_o1_doors v_o1_needs v_o1_beside v_o1_needParts) H locs → lv_has ls 5 [(0, .ref a_this), (1, .ref a_o1), (2, .int x2), (3, .int x3)] → W p l e { frames := 3, cells := 0, slots := 0, locals := 239 } s m args below meth c H locs 0 0 Q (F0 m 9 ls []) := by
  have hx := ha.1
  have hb := ha.2.1
  intro n
  induction n with
  | zero => exact fun _ _ _ _ _ _ h _ _ => False.elim h
  | succ n ih =>
    intro x3 v_comesTo v_barred H locs ls h hw hl
    have h : (x2 ≤ x3 → K v_comesTo v_barred) ∧ (¬ (x2 ≤ x3) → ((32 : Int32) ≤ x3 → K v_comesTo v_barred) ∧ (¬ ((32 : Int32) ≤ x3) → ∀ x4_4 : Int32, x4_4 = x3 * (6 : Int32) → wp_X1_everyPlace v_o1_rooms (fun (r5 : Int32) => wp_X9_learnDoors x4_4 (r5 &&& ((x3 <<< ((1 : Int32) &&& 31)) ^^^ (-1 : Int32))) v_comesTo v_o1_rooms v_o1_beside (fun (v_comesTo_6 : IA) => wp_X9_joinWays v_o1_rooms x4_4 v_comesTo_6 (fun (v_comesTo_7 : IA) => wp_X9_barredIn x4_4 v_comesTo_7 v_o1_needs v_o1_needParts (fun (r8 : Int32) => vp_in x3 32 ∧ (wp_X9_learn_9 x2 v_o1_rooms v_o1_needs v_o1_beside v_o1_needParts K n (x3 + (1 : Int32)) v_comesTo_7 (upd v_barred x3.toNatClampNeg r8)))))))) := h
    refine lv_iload_n hx hb dX9_learn_9 rfl (lv_at hl 3 rfl) ?_
    refine lv_iload_n hx hb dX9_learn_10 rfl (lv_at hl 2 rfl) ?_
    refine lv_icmp_ge (tgt := 72) hx hb dX9_learn_11 (by decide) (fun c2 => ?_) (fun c2 => ?_)
    · have h := h.1 c2
      exact hr _ (v_comesTo, v_barred) _ _ _ dX9_learn_72 h hw
    · have h := h.2 c2
      refine lv_iload_n hx hb dX9_learn_14 rfl (lv_at hl 3 rfl) ?_
      refine lv_bipush (v := (32 : Int32)) hx hb dX9_learn_15 (by decide) ?_
      refine lv_icmp_ge (tgt := 72) hx hb dX9_learn_17 (by decide) (fun c3 => ?_) (fun c3 => ?_)
      · have h := h.1 c3
        exact hr _ (v_comesTo, v_barred) _ _ _ dX9_learn_72 h hw
      · have h := h.2 c3
        refine lv_iload_n hx hb dX9_learn_20 rfl (lv_at hl 3 rfl) ?_
        refine lv_bipush (v := (6 : Int32)) hx hb dX9_learn_21 (by decide) ?_
        refine lv_imul hx hb dX9_learn_23 ?_
        refine lv_topi (fun x4_4 ex4_4 => ?_)
        have h := h x4_4 ex4_4
        refine lv_istore (lv' := [(4, .int x4_4), (0, .ref a_this), (1, .ref a_o1), (2, .int x2), (3, .int x3)]) hx hb dX9_learn_24 hl (by decide) rfl (fun ls hl => ?_)
        refine lv_aload_n hx hb dX9_learn_26 rfl (lv_at hl 1 rfl) ?_
        refine lv_aload_n hx hb dX9_learn_27 rfl (lv_at hl 2 rfl) ?_
        refine lv_iload hx hb dX9_learn_28 (lv_at hl 0 rfl) ?_
        refine lv_aload_n hx hb dX9_learn_30 rfl (lv_at hl 2 rfl) ?_
        refine g_cvi (rm := { frames := 1, cells := 0, slots := 0, locals := 64 }) (wn := (fun (u : Unit) => (w_X9_learn cy a_this a_comesTo a_barred a_o1 a_o1_beside a_o1_needParts w_o1_work w_o1_coats v_comesTo v_barred v_o1_rooms v_o1_doors v_o1_needs v_o1_beside v_o1_needParts))) (As := []) ha hw hl.1 (c_X1_everyPlace (cy := cy)) (cwV 0 ha.2.2.2.2.1 gX9_learn_X1_everyPlace rfl rfl rfl hq_X1_everyPlace ⟨Nat.le_of_ble_eq_true rfl, Nat.le_of_ble_eq_true rfl⟩) [3] [0, 1, 2, 4, 5] [0, 1, 2, 5, 3, 4] rfl rfl rfl rfl (by decide) rfl (fun _ => rfl) rfl rfl h rfl rfl (Nat.le_of_ble_eq_true rfl) dX9_learn_31 ⟨Nat.le_refl _, Nat.le_refl _⟩ (fun r5 u H locs h hw => ?_)
        have hw : wd D A s.heap (w_X9_learn cy a_this a_comesTo a_barred a_o1 a_o1_beside a_o1_needParts w_o1_work w_o1_coats v_comesTo v_barred v_o1_rooms v_o1_doors v_o1_needs v_o1_beside v_o1_needParts) H locs := hw
        try dsimp only at h
        refine lv_iload_n hx hb dX9_learn_34 rfl (lv_at hl 4 rfl) ?_
        refine lv_iconst (v := (1 : Int32)) hx hb dX9_learn_35 (by decide) ?_
        refine lv_ishl hx hb dX9_learn_36 ?_
        refine lv_iconst (v := (-1 : Int32)) hx hb dX9_learn_37 (by decide) ?_
        refine lv_ixor hx hb dX9_learn_38 ?_
        refine lv_iand hx hb dX9_learn_39 ?_
        refine g_cvv (rm := { frames := 1, cells := 0, slots := 0, locals := 64 }) (wn := (fun (u : IA) => (w_X9_learn cy a_this a_comesTo a_barred a_o1 a_o1_beside a_o1_needParts w_o1_work w_o1_coats u v_barred v_o1_rooms v_o1_doors v_o1_needs v_o1_beside v_o1_needParts))) (As := [.ref a_o1, .int x4_4, .int (r5 &&& ((x3 <<< ((1 : Int32) &&& 31)) ^^^ (-1 : Int32)))]) ha hw hl.1 (c_X9_learnDoors (cy := cy)) (cwV 3 ha.2.2.2.2.1 gX9_learn_X9_learnDoors rfl rfl rfl hq_X9_learnDoors ⟨Nat.le_of_ble_eq_true rfl, Nat.le_of_ble_eq_true rfl⟩) [0, 1, 3, 4] [2, 5] [2, 3, 0, 4, 5, 1] rfl rfl rfl rfl (by decide) rfl (fun _ => rfl) rfl rfl h rfl rfl (Nat.le_of_ble_eq_true rfl) dX9_learn_40 ⟨Nat.le_refl _, Nat.le_refl _⟩ (fun u H locs h hw => ?_)
        obtain ⟨v_comesTo_6, rfl⟩ : ∃ z, z = u := ⟨_, rfl⟩
        have hw : wd D A s.heap (w_X9_learn cy a_this a_comesTo a_barred a_o1 a_o1_beside a_o1_needParts w_o1_work w_o1_coats v_comesTo_6 v_barred v_o1_rooms v_o1_doors v_o1_needs v_o1_beside v_o1_needParts) H locs := hw
        try dsimp only at h
        refine lv_aload_n hx hb dX9_learn_43 rfl (lv_at hl 1 rfl) ?_
        refine lv_aload_n hx hb dX9_learn_44 rfl (lv_at hl 2 rfl) ?_
        refine g_getN (ci := 1) ha hw 3 0 0 rfl hi_X9_learn_1 (by decide) rfl rfl rfl dX9_learn_45 ?_
        refine lv_iload hx hb dX9_learn_48 (lv_at hl 0 rfl) ?_
        refine g_cvv (rm := { frames := 1, cells := 0, slots := 0, locals := 64 }) (wn := (fun (u : IA) => (w_X9_learn cy a_this a_comesTo a_barred a_o1 a_o1_beside a_o1_needParts w_o1_work w_o1_coats u v_barred v_o1_rooms v_o1_doors v_o1_needs v_o1_beside v_o1_needParts))) (As := [.int v_o1_rooms, .int x4_4]) ha hw hl.1 (c_X9_joinWays (cy := cy)) (cwV 2 ha.2.2.2.2.1 gX9_learn_X9_joinWays rfl rfl rfl hq_X9_joinWays ⟨Nat.le_of_ble_eq_true rfl, Nat.le_of_ble_eq_true rfl⟩) [0, 1] [2, 3, 4, 5] [4, 5, 0, 1, 2, 3] rfl rfl rfl rfl (by decide) rfl (fun _ => rfl) rfl rfl h rfl rfl (Nat.le_of_ble_eq_true rfl) dX9_learn_50 ⟨Nat.le_refl _, Nat.le_refl _⟩ (fun u H locs h hw => ?_)
        obtain ⟨v_comesTo_7, rfl⟩ : ∃ z, z = u := ⟨_, rfl⟩
        have hw : wd D A s.heap (w_X9_learn cy a_this a_comesTo a_barred a_o1 a_o1_beside a_o1_needParts w_o1_work w_o1_coats v_comesTo_7 v_barred v_o1_rooms v_o1_doors v_o1_needs v_o1_beside v_o1_needParts) H locs := hw
        try dsimp only at h
        refine lv_aload_n hx hb dX9_learn_53 rfl (lv_at hl 1 rfl) ?_
        refine g_get (ci := 9) ha hw 0 1 rfl hi_X9_learn_9 (by decide) (List.mem_of_getElem? (i := 1) rfl) rfl rfl dX9_learn_54 ?_
        refine lv_iload_n hx hb dX9_learn_57 rfl (lv_at hl 4 rfl) ?_
        refine lv_aload_n hx hb dX9_learn_58 rfl (lv_at hl 1 rfl) ?_
        refine lv_aload_n hx hb dX9_learn_59 rfl (lv_at hl 2 rfl) ?_
        refine lv_iload hx hb dX9_learn_60 (lv_at hl 0 rfl) ?_
        refine g_cvi (rm := { frames := 2, cells := 0, slots := 0, locals := 150 }) (wn := (fun (u : Unit) => (w_X9_learn cy a_this a_comesTo a_barred a_o1 a_o1_beside a_o1_needParts w_o1_work w_o1_coats v_comesTo_7 v_barred v_o1_rooms v_o1_doors v_o1_needs v_o1_beside v_o1_needParts))) (As := [.ref a_o1, .int x4_4]) ha hw hl.1 (c_X9_barredIn (cy := cy)) (cwV 2 ha.2.2.2.2.1 gX9_learn_X9_barredIn rfl rfl rfl hq_X9_barredIn ⟨Nat.le_of_ble_eq_true rfl, Nat.le_of_ble_eq_true rfl⟩) [0, 1, 3, 5] [2, 4] [2, 3, 0, 4, 1, 5] rfl rfl rfl rfl (by decide) rfl (fun _ => rfl) rfl rfl h rfl rfl (Nat.le_of_ble_eq_true rfl) dX9_learn_62 ⟨Nat.le_refl _, Nat.le_refl _⟩ (fun r8 u H locs h hw => ?_)
        have hw : wd D A s.heap (w_X9_learn cy a_this a_comesTo a_barred a_o1 a_o1_beside a_o1_needParts w_o1_work w_o1_coats v_comesTo_7 v_barred v_o1_rooms v_o1_doors v_o1_needs v_o1_beside v_o1_needParts) H locs := hw
        try dsimp only at h
        obtain ⟨z9, h⟩ := h
        refine g_ast (wn := (w_X9_learn cy a_this a_comesTo a_barred a_o1 a_o1_beside a_o1_needParts w_o1_work w_o1_coats v_comesTo_7 (upd v_barred x3.toNatClampNeg r8) v_o1_rooms v_o1_doors v_o1_needs v_o1_beside v_o1_needParts)) ha hw 2 rfl z9 rfl dX9_learn_65 (fun H locs hw => ?_)
        refine lv_iinc (v := x3 + (1 : Int32)) (lv' := [(3, .int (x3 + (1 : Int32))), (4, .int x4_4), (0, .ref a_this), (1, .ref a_o1), (2, .int x2)]) hx hb dX9_learn_66 hl (k := 4) rfl rfl (by decide) rfl (fun ls hl => ?_)
        refine lv_goto (tgt := 9) hx hb dX9_learn_69 (by decide) ?_
        exact ih _ _ _ _ _ _ h hw (lv_sub hl [2, 3, 4, 0] rfl)
def wp_X9_learn (v_comesTo : IA) (v_barred : IA) (v_o1_rooms : Int32) (v_o1_needs : Int32) (v_o1_beside : IA) (v_o1_needParts : IA) (K : IA → IA → Prop) : Prop := ∀ x2_1 : Int32, x2_1 = (1 : Int32) <<< (v_o1_rooms &&& 31) → ∃ n10 : Nat, wp_X9_learn_9 x2_1 v_o1_rooms v_o1_needs v_o1_beside v_o1_needParts K n10 (0 : Int32) v_comesTo v_barred
set_option maxHeartbeats 4000000 in
set_option maxRecDepth 100000 in
theorem c_X9_learn {l : Launch} {D : va_G} {cy : ClassId} {a_this a_comesTo a_barred a_o1 a_o1_beside a_o1_needParts : Nat} {w_o1_work w_o1_coats : Value} {v_comesTo : IA} {v_barred : IA} {v_o1_rooms : Int32} {v_o1_doors : Int32} {v_o1_needs : Int32} {v_o1_beside : IA} {v_o1_needParts : IA} {K : IA → IA → Prop} : CtV l yX9_learn wsX9_learn { frames := 3, cells := 0, slots := 0, locals := 239 } 0 0 D cy [.ref a_this, .ref a_o1] (w_X9_learn cy a_this a_comesTo a_barred a_o1 a_o1_beside a_o1_needParts w_o1_work w_o1_coats v_comesTo v_barred v_o1_rooms v_o1_doors v_o1_needs v_o1_beside v_o1_needParts) (wp_X9_learn v_comesTo v_barred v_o1_rooms v_o1_needs v_o1_beside v_o1_needParts K) (fun (u : IA × IA) => (w_X9_learn cy a_this a_comesTo a_barred a_o1 a_o1_beside a_o1_needParts w_o1_work w_o1_coats u.1 u.2 v_o1_rooms v_o1_doors v_o1_needs v_o1_beside v_o1_needParts)) (fun (u : IA × IA) => K u.1 u.2) := by
  refine CtV.mk (cc := cX9_learn) (nL := 5) (by decide) rfl (Nat.le_of_ble_eq_true rfl) ?_
  intro p e s m args below meth c A Q ha hr _ h ls hl hw
  have ha : am p s m args c cX9_learn 5 RX9 wsX9_learn D cy A := ha
  have hx := ha.1
  have hb := ha.2.1
  have hl : lv_has ls 5 [(0, .ref a_this), (1, .ref a_o1)] := hl
  have h : ∀ x2_1 : Int32, x2_1 = (1 : Int32) <<< (v_o1_rooms &&& 31) → ∃ n10 : Nat, wp_X9_learn_9 x2_1 v_o1_rooms v_o1_needs v_o1_beside v_o1_needParts K n10 (0 : Int32) v_comesTo v_barred := h
  refine lv_iconst (v := (1 : Int32)) hx hb dX9_learn_0 (by decide) ?_
  refine lv_aload_n hx hb dX9_learn_1 rfl (lv_at hl 1 rfl) ?_
  refine g_getN (ci := 1) ha hw 3 0 0 rfl hi_X9_learn_1 (by decide) rfl rfl rfl dX9_learn_2 ?_
  refine lv_ishl hx hb dX9_learn_5 ?_
  refine lv_topi (fun x2_1 ex2_1 => ?_)
  have h := h x2_1 ex2_1
  refine lv_istore_n (lv' := [(2, .int x2_1), (0, .ref a_this), (1, .ref a_o1)]) hx hb dX9_learn_6 rfl hl (by decide) rfl (fun ls hl => ?_)
  refine lv_iconst (v := (0 : Int32)) hx hb dX9_learn_7 (by decide) ?_
  refine lv_istore_n (lv' := [(3, .int (0 : Int32)), (2, .int x2_1), (0, .ref a_this), (1, .ref a_o1)]) hx hb dX9_learn_8 rfl hl (by decide) rfl (fun ls hl => ?_)
  obtain ⟨n9, h⟩ := h
  refine pl_X9_learn_9 ha hr n9 _ _ _ _ _ _ h hw (lv_sub hl [2, 3, 1, 0] rfl)
