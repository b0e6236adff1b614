theorem hq_X11_goesOn : yX11_goesOn.cls = RX11 ∧ yX11_goesOn.cls ≠ "java/lang/invoke/MethodHandle" ∧ yX11_goesOn.cls ≠ "java/lang/invoke/VarHandle" ∧ (parseMethodDescriptor yX11_goesOn.desc).map (fun d => d.parameters.length) = some 1 := by decide +kernel
def w_X11_goesOn (cy : ClassId) (a_this a_s a_met a_best : Nat) (w_refusals w_image w_read w_tape w_told w_kept w_squares w_far w_queue : Value) (v_s : IA) (v_isImage : Int32) (v_taped : Int32) (v_at : Int32) (v_met : IA) (v_wrongHour : Int32) (v_wrongThing : Int32) (v_best : IA) (v_soonest : Int32) (v_bestSteps : Int32) : va_W := [(a_this, .inr (11, [w_refusals, .ref a_s, w_image, w_read, .int v_isImage, w_tape, w_told, .int v_taped, .int v_at, .ref a_met, .int v_wrongHour, .int v_wrongThing, .ref a_best, w_kept, .int v_soonest, .int v_bestSteps, w_squares, w_far, w_queue])), (a_s, .inl (cy, 120, .inl v_s)), (a_met, .inl (cy, 64, .inl v_met)), (a_best, .inl (cy, 16, .inl v_best))]
theorem hi_X11_goesOn_11 : ∀ w ∈ u_ws RX11 TX11 19, w ∈ wsX11_goesOn := fun _ h => List.mem_cons_of_mem _ (List.mem_append_right _ h)
def wp_X11_goesOn_85 (G : Int32 → IA → IA → IA → Int32 → Int32 → (IA → IA → Int32 → Int32 → Prop) → Prop) (x1 : Int32) (v_met : IA) (K : IA → IA → Int32 → Int32 → Prop) : Nat → Int32 → IA → IA → Int32 → Int32 → Prop
  | 0, _, _, _, _, _ => False
  | n + 1, x2, v_s, v_best, v_soonest, v_bestSteps => ((v_s (0 : Int32).toNatClampNeg) ≤ x2 → K v_s v_best v_soonest v_bestSteps) ∧ (¬ ((v_s (0 : Int32).toNatClampNeg) ≤ x2) → wp_X11_coatsOf x2 (v_s (3 : Int32).toNatClampNeg) v_s (fun (r3 : Int32) => vp_in ((15 : Int32) + x2) 120 ∧ ((r3 = (v_s ((15 : Int32) + x2).toNatClampNeg) → wp_X11_goesOn_85 G x1 v_met K n (x2 + (1 : Int32)) v_s v_best v_soonest v_bestSteps) ∧ (¬ (r3 = (v_s ((15 : Int32) + x2).toNatClampNeg)) → wp_X11_canBegin x2 v_s v_met (fun (r6 : Int32) (v_s_7 : IA) => (r6 = 0 → wp_X11_goesOn_85 G x1 v_met K n (x2 + (1 : Int32)) v_s_7 v_best v_soonest v_bestSteps) ∧ (¬ (r6 = 0) → G x1 v_s_7 v_met v_best v_soonest v_bestSteps (fun (v_s_9 : IA) (v_best_10 : IA) (v_soonest_11 : Int32) (v_bestSteps_12 : Int32) => wp_X11_goesOn_85 G x1 v_met K n (x2 + (1 : Int32)) (upd v_s_9 (3 : Int32).toNatClampNeg ((v_s_9 (3 : Int32).toNatClampNeg) - (1 : Int32))) v_best_10 v_soonest_11 v_bestSteps_12)))))))
set_option maxHeartbeats 4000000 in
set_option maxRecDepth 100000 in
theorem pl_X11_goesOn_85 {p : Program} {l : Launch} {e : Env} {s : State} {m : MethodId} {args : Array Value} {below : List Frame} {meth : Method} {c : Code} {A : Nat → Prop} {Q : State → Prop} {D : va_G} {cy : ClassId} {d : Nat} {a_this a_s a_met a_best : Nat} {w_refusals w_image w_read w_tape w_told w_kept w_squares w_far w_queue : Value} {v_isImage : Int32} {v_taped : Int32} {v_at : Int32} {v_met : IA} {v_wrongHour : Int32} {v_wrongThing : Int32} {x1 : Int32} {K : IA → IA → Int32 → Int32 → Prop} {G : Int32 → IA → IA → IA → Int32 → Int32 → (IA → IA → Int32 → Int32 → Prop) → Prop} (hrec : ∀ {x1' : Int32} {v_s' : IA} {v_best' : IA} {v_soonest' : Int32} {v_bestSteps' : Int32} {K' : IA → IA → Int32 → Int32 → Prop}, CtV l yX11_goesOn wsX11_goesOn { frames := 8 + d, cells := 0, slots := 0, locals := 671 + 100 * d } 0 0 D cy [.ref a_this, .int x1'] (w_X11_goesOn cy a_this a_s a_met a_best w_refusals w_image w_read w_tape w_told w_kept w_squares w_far w_queue v_s' v_isImage v_taped v_at v_met v_wrongHour v_wrongThing v_best' v_soonest' v_bestSteps') (G x1' v_s' v_met v_best' v_soonest' v_bestSteps' K') (fun (u : IA × IA × Int32 × Int32) => (w_X11_goesOn cy a_this a_s a_met a_best w_refusals w_image w_read w_tape w_told w_kept w_squares w_far w_queue u.1 v_isImage v_taped v_at v_met v_wrongHour v_wrongThing u.2.1 u.2.2.1 u.2.2.2)) (fun (u : IA × IA × Int32 × Int32) => K' u.1 u.2.1 u.2.2.1 u.2.2.2)) (ha : am p s m args c cX11_goesOn 4 RX11 wsX11_goesOn D cy A) (hr : rtV p l e { frames := 8 + (d + 1), cells := 0, slots := 0, locals := 671 + 100 * (d + 1) } s m args below meth c 0 0 Q cX11_goesOn D A (fun (u : IA × IA × Int32 × Int32) => (w_X11_goesOn cy a_this a_s a_met a_best w_refusals w_image w_read w_tape w_told w_kept w_squares w_far w_queue u.1 v_isImage v_taped v_at v_met v_wrongHour v_wrongThing u.2.1 u.2.2.1 u.2.2.2)) (fun (u : IA × IA × Int32 × Int32) => K u.1 u.2.1 u.2.2.1 u.2.2.2)) : ∀ (n : Nat) (x2 : Int32) (v_s : IA) (v_best : IA) (v_soonest : Int32) (v_bestSteps : Int32) (H : Heap) (locs : List Loc) (ls : Array Slot), wp_X11_goesOn_85 G x1 v_met K n x2 v_s v_best v_soonest v_bestSteps → wd D A s.heap (w_X11_goesOn cy a_this a_s a_met a_best w_refusals w_image w_read w_tape w_told w_kept w_squares w_far w_queue v_s v_isImage v_taped v_at v_met v_wrongHour v_wrongThing v_best v_soonest v_bestSteps) H locs → lv_has ls 4 [(0, .ref a_this), (1, .int x1), (2, .int x2)] → W p l e { frames := 8 + (d + 1), cells := 0, slots := 0, locals := 671 + 100 * (d + 1) } s m args below meth c H locs 0 0 Q (F0 m 85 ls []) := by
  have hx := ha.1
  have hb := ha.2.1
  intro n
  induction n with
  | zero => exact fun _ _ _ _ _ _ _ _ h _ _ => False.elim h
  | succ n ih =>
    intro x2 v_s v_best v_soonest v_bestSteps H locs ls h hw hl
    have h : ((v_s (0 : Int32).toNatClampNeg) ≤ x2 → K v_s v_best v_soonest v_bestSteps) ∧ (¬ ((v_s (0 : Int32).toNatClampNeg) ≤ x2) → wp_X11_coatsOf x2 (v_s (3 : Int32).toNatClampNeg) v_s (fun (r3 : Int32) => vp_in ((15 : Int32) + x2) 120 ∧ ((r3 = (v_s ((15 : Int32) + x2).toNatClampNeg) → wp_X11_goesOn_85 G x1 v_met K n (x2 + (1 : Int32)) v_s v_best v_soonest v_bestSteps) ∧ (¬ (r3 = (v_s ((15 : Int32) + x2).toNatClampNeg)) → wp_X11_canBegin x2 v_s v_met (fun (r6 : Int32) (v_s_7 : IA) => (r6 = 0 → wp_X11_goesOn_85 G x1 v_met K n (x2 + (1 : Int32)) v_s_7 v_best v_soonest v_bestSteps) ∧ (¬ (r6 = 0) → G x1 v_s_7 v_met v_best v_soonest v_bestSteps (fun (v_s_9 : IA) (v_best_10 : IA) (v_soonest_11 : Int32) (v_bestSteps_12 : Int32) => wp_X11_goesOn_85 G x1 v_met K n (x2 + (1 : Int32)) (upd v_s_9 (3 : Int32).toNatClampNeg ((v_s_9 (3 : Int32).toNatClampNeg) - (1 : Int32))) v_best_10 v_soonest_11 v_bestSteps_12))))))) := h
    refine lv_iload_n hx hb dX11_goesOn_85 rfl (lv_at hl 2 rfl) ?_
    refine lv_aload_n hx hb dX11_goesOn_86 rfl (lv_at hl 0 rfl) ?_
    refine g_get (ci := 11) ha hw 0 1 rfl hi_X11_goesOn_11 (by decide) (List.mem_of_getElem? (i := 1) rfl) rfl rfl dX11_goesOn_87 ?_
    refine lv_iconst (v := (0 : Int32)) hx hb dX11_goesOn_90 (by decide) ?_
    refine g_ald ha hw 1 rfl (vp_in_iff.mpr (by decide)) dX11_goesOn_91 ?_
    refine lv_icmp_ge (tgt := 150) hx hb dX11_goesOn_92 (by decide) (fun c2 => ?_) (fun c2 => ?_)
    · have h := h.1 c2
      exact hr _ (v_s, v_best, v_soonest, v_bestSteps) _ _ _ dX11_goesOn_150 h hw
    · have h := h.2 c2
      refine lv_aload_n hx hb dX11_goesOn_95 rfl (lv_at hl 0 rfl) ?_
      refine lv_iload_n hx hb dX11_goesOn_96 rfl (lv_at hl 2 rfl) ?_
      refine lv_aload_n hx hb dX11_goesOn_97 rfl (lv_at hl 0 rfl) ?_
      refine g_get (ci := 11) ha hw 0 1 rfl hi_X11_goesOn_11 (by decide) (List.mem_of_getElem? (i := 1) rfl) rfl rfl dX11_goesOn_98 ?_
      refine lv_iconst (v := (3 : Int32)) hx hb dX11_goesOn_101 (by decide) ?_
      refine g_ald ha hw 1 rfl (vp_in_iff.mpr (by decide)) dX11_goesOn_102 ?_
      refine g_cvi (rm := { frames := 2, cells := 0, slots := 0, locals := 149 }) (wn := (fun (u : Unit) => (w_X11_goesOn cy a_this a_s a_met a_best w_refusals w_image w_read w_tape w_told w_kept w_squares w_far w_queue v_s v_isImage v_taped v_at v_met v_wrongHour v_wrongThing v_best v_soonest v_bestSteps))) (As := [.int x2, .int (v_s (3 : Int32).toNatClampNeg)]) ha hw hl.1 (c_X11_coatsOf (cy := cy)) (cwV 2 ha.2.2.2.2.1 gX11_goesOn_X11_coatsOf rfl rfl rfl hq_X11_coatsOf ⟨(show 2 + 1 ≤ 8 + (d + 1) by omega), (show 8 + (5 + 11) + (149) ≤ 671 + 100 * (d + 1) by omega)⟩) [0, 1] [2, 3] [2, 3, 0, 1] rfl rfl rfl rfl (by decide) rfl (fun _ => rfl) rfl rfl h rfl rfl (Nat.le_of_ble_eq_true rfl) dX11_goesOn_103 ⟨Nat.le_refl _, Nat.le_refl _⟩ (fun r3 u H locs h hw => ?_)
      have hw : wd D A s.heap (w_X11_goesOn cy a_this a_s a_met a_best w_refusals w_image w_read w_tape w_told w_kept w_squares w_far w_queue v_s v_isImage v_taped v_at v_met v_wrongHour v_wrongThing v_best v_soonest v_bestSteps) H locs := hw
      try dsimp only at h
      refine lv_aload_n hx hb dX11_goesOn_106 rfl (lv_at hl 0 rfl) ?_
      refine g_get (ci := 11) ha hw 0 1 rfl hi_X11_goesOn_11 (by decide) (List.mem_of_getElem? (i := 1) rfl) rfl rfl dX11_goesOn_107 ?_
      refine lv_bipush (v := (15 : Int32)) hx hb dX11_goesOn_110 (by decide) ?_
      refine lv_iload_n hx hb dX11_goesOn_112 rfl (lv_at hl 2 rfl) ?_
      refine lv_iadd hx hb dX11_goesOn_113 ?_
      obtain ⟨z4, h⟩ := h
      refine g_ald ha hw 1 rfl z4 dX11_goesOn_114 ?_
      refine lv_icmp_eq (tgt := 144) hx hb dX11_goesOn_115 (by decide) (fun c5 => ?_) (fun c5 => ?_)
      · have h := h.1 c5
        refine lv_iinc (v := x2 + (1 : Int32)) (lv' := [(2, .int (x2 + (1 : Int32))), (0, .ref a_this), (1, .int x1)]) hx hb dX11_goesOn_144 hl (k := 2) rfl rfl (by decide) rfl (fun ls hl => ?_)
        refine lv_goto (tgt := 85) hx hb dX11_goesOn_147 (by decide) ?_
        exact ih _ _ _ _ _ _ _ _ h hw (lv_sub hl [1, 2, 0] rfl)
      · have h := h.2 c5
        refine lv_aload_n hx hb dX11_goesOn_118 rfl (lv_at hl 0 rfl) ?_
        refine lv_iload_n hx hb dX11_goesOn_119 rfl (lv_at hl 2 rfl) ?_
        refine g_cvi (rm := { frames := 7, cells := 0, slots := 0, locals := 582 }) (wn := (fun (u : IA) => (w_X11_goesOn cy a_this a_s a_met a_best w_refusals w_image w_read w_tape w_told w_kept w_squares w_far w_queue u v_isImage v_taped v_at v_met v_wrongHour v_wrongThing v_best v_soonest v_bestSteps))) (As := [.int x2]) ha hw hl.1 (c_X11_canBegin (cy := cy)) (cwV 1 ha.2.2.2.2.1 gX11_goesOn_X11_canBegin rfl rfl rfl hq_X11_canBegin ⟨(show 7 + 1 ≤ 8 + (d + 1) by omega), (show 8 + (6 + 11) + (582) ≤ 671 + 100 * (d + 1) by omega)⟩) [0, 1, 2] [3] [1, 2, 3, 0] rfl rfl rfl rfl (by decide) rfl (fun _ => rfl) rfl rfl h rfl rfl (Nat.le_of_ble_eq_true rfl) dX11_goesOn_120 ⟨Nat.le_refl _, Nat.le_refl _⟩ (fun r6 u H locs h hw => ?_)
        obtain ⟨v_s_7, rfl⟩ : ∃ z, z = u := ⟨_, rfl⟩
        have hw : wd D A s.heap (w_X11_goesOn cy a_this a_s a_met a_best w_refusals w_image w_read w_tape w_told w_kept w_squares w_far w_queue v_s_7 v_isImage v_taped v_at v_met v_wrongHour v_wrongThing v_best v_soonest v_bestSteps) H locs := hw
        obtain ⟨zr6, h⟩ := h
        try dsimp only at h
        refine lv_if_ne (tgt := 129) hx hb dX11_goesOn_123 (by decide) (fun c8 => ?_) (fun c8 => ?_)
        · have h := h.2 c8
          refine lv_aload_n hx hb dX11_goesOn_129 rfl (lv_at hl 0 rfl) ?_
          refine lv_iload_n hx hb dX11_goesOn_130 rfl (lv_at hl 1 rfl) ?_
          refine g_cvv (rm := { frames := 8 + d, cells := 0, slots := 0, locals := 671 + 100 * d }) (wn := (fun (u : IA × IA × Int32 × Int32) => (w_X11_goesOn cy a_this a_s a_met a_best w_refusals w_image w_read w_tape w_told w_kept w_squares w_far w_queue u.1 v_isImage v_taped v_at v_met v_wrongHour v_wrongThing u.2.1 u.2.2.1 u.2.2.2))) (As := [.int x1]) ha hw hl.1 hrec (cwV 1 ha.2.2.2.2.1 gX11_goesOn_X11_goesOn rfl rfl rfl hq_X11_goesOn ⟨(show 8 + d + 1 ≤ 8 + (d + 1) by omega), (show 8 + (4 + 11) + (671 + 100 * d) ≤ 671 + 100 * (d + 1) by omega)⟩) [0, 1, 2, 3] [] [0, 1, 2, 3] rfl rfl rfl rfl (by decide) rfl (fun _ => rfl) rfl rfl h rfl rfl (Nat.le_of_ble_eq_true rfl) dX11_goesOn_131 ⟨Nat.le_refl _, Nat.le_refl _⟩ (fun u H locs h hw => ?_)
          obtain ⟨v_s_9, v_best_10, v_soonest_11, v_bestSteps_12⟩ := u
          have hw : wd D A s.heap (w_X11_goesOn cy a_this a_s a_met a_best w_refusals w_image w_read w_tape w_told w_kept w_squares w_far w_queue v_s_9 v_isImage v_taped v_at v_met v_wrongHour v_wrongThing v_best_10 v_soonest_11 v_bestSteps_12) H locs := hw
          try dsimp only at h
          refine lv_aload_n hx hb dX11_goesOn_134 rfl (lv_at hl 0 rfl) ?_
          refine g_get (ci := 11) ha hw 0 1 rfl hi_X11_goesOn_11 (by decide) (List.mem_of_getElem? (i := 1) rfl) rfl rfl dX11_goesOn_135 ?_
          refine lv_iconst (v := (3 : Int32)) hx hb dX11_goesOn_138 (by decide) ?_
          refine lv_dup2_11 hx hb dX11_goesOn_139 rfl rfl ?_
          refine g_ald ha hw 1 rfl (vp_in_iff.mpr (by decide)) dX11_goesOn_140 ?_
          refine lv_iconst (v := (1 : Int32)) hx hb dX11_goesOn_141 (by decide) ?_
          refine lv_isub hx hb dX11_goesOn_142 ?_
          refine g_ast (wn := (w_X11_goesOn cy a_this a_s a_met a_best w_refusals w_image w_read w_tape w_told w_kept w_squares w_far w_queue (upd v_s_9 (3 : Int32).toNatClampNeg ((v_s_9 (3 : Int32).toNatClampNeg) - (1 : Int32))) v_isImage v_taped v_at v_met v_wrongHour v_wrongThing v_best_10 v_soonest_11 v_bestSteps_12)) ha hw 1 rfl (vp_in_iff.mpr (by decide)) rfl dX11_goesOn_143 (fun H locs hw => ?_)
          refine lv_iinc (v := x2 + (1 : Int32)) (lv' := [(2, .int (x2 + (1 : Int32))), (0, .ref a_this), (1, .int x1)]) hx hb dX11_goesOn_144 hl (k := 2) rfl rfl (by decide) rfl (fun ls hl => ?_)
          refine lv_goto (tgt := 85) hx hb dX11_goesOn_147 (by decide) ?_
          exact ih _ _ _ _ _ _ _ _ h hw (lv_sub hl [1, 2, 0] rfl)
        · have h := h.1 c8
          refine lv_goto (tgt := 144) hx hb dX11_goesOn_126 (by decide) ?_
          refine lv_iinc (v := x2 + (1 : Int32)) (lv' := [(2, .int (x2 + (1 : Int32))), (0, .ref a_this), (1, .int x1)]) hx hb dX11_goesOn_144 hl (k := 2) rfl rfl (by decide) rfl (fun ls hl => ?_)
          refine lv_goto (tgt := 85) hx hb dX11_goesOn_147 (by decide) ?_
          exact ih _ _ _ _ _ _ _ _ h hw (lv_sub hl [1, 2, 0] rfl)
def wp_X11_goesOn_54 (G : Int32 → IA → IA → IA → Int32 → Int32 → (IA → IA → Int32 → Int32 → Prop) → Prop) (x1 : Int32) (v_s : IA) (v_soonest : Int32) (v_bestSteps : Int32) (K : IA → IA → Int32 → Int32 → Prop) : Nat → Int32 → IA → Prop
  | 0, _, _ => False
  | n + 1, x3, v_best => (((2 : Int32) * x1) ≤ x3 → K v_s v_best v_soonest v_bestSteps) ∧ (¬ (((2 : Int32) * x1) ≤ x3) → vp_in ((77 : Int32) + x3) 120 ∧ (vp_in x3 16 ∧ (wp_X11_goesOn_54 G x1 v_s v_soonest v_bestSteps K n (x3 + (1 : Int32)) (upd v_best x3.toNatClampNeg (v_s ((77 : Int32) + x3).toNatClampNeg)))))
set_option maxHeartbeats 4000000 in
set_option maxRecDepth 100000 in
theorem pl_X11_goesOn_54 {p : Program} {l : Launch} {e : Env} {s : State} {m : MethodId} {args : Array Value} {below : List Frame} {meth : Method} {c : Code} {A : Nat → Prop} {Q : State → Prop} {D : va_G} {cy : ClassId} {d : Nat} {a_this a_s a_met a_best : Nat} {w_refusals w_image w_read w_tape w_told w_kept w_squares w_far w_queue : Value} {v_s : IA} {v_isImage : Int32} {v_taped : Int32} {v_at : Int32} {v_met : IA} {v_wrongHour : Int32} {v_wrongThing : Int32} {v_soonest : Int32} {v_bestSteps : Int32} {x1 : Int32} {K : IA → IA → Int32 → Int32 → Prop} {G : Int32 → IA → IA → IA → Int32 → Int32 → (IA → IA → Int32 → Int32 → Prop) → Prop} (hrec : ∀ {x1' : Int32} {v_s' : IA} {v_best' : IA} {v_soonest' : Int32} {v_bestSteps' : Int32} {K' : IA → IA → Int32 → Int32 → Prop}, CtV l yX11_goesOn wsX11_goesOn { frames := 8 + d, cells := 0, slots := 0, locals := 671 + 100 * d } 0 0 D cy [.ref a_this, .int x1'] (w_X11_goesOn cy a_this a_s a_met a_best w_refusals w_image w_read w_tape w_told w_kept w_squares w_far w_queue v_s' v_isImage v_taped v_at v_met v_wrongHour v_wrongThing v_best' v_soonest' v_bestSteps') (G x1' v_s' v_met v_best' v_soonest' v_bestSteps' K') (fun (u : IA × IA × Int32 × Int32) => (w_X11_goesOn cy a_this a_s a_met a_best w_refusals w_image w_read w_tape w_told w_kept w_squares w_far w_queue u.1 v_isImage v_taped v_at v_met v_wrongHour v_wrongThing u.2.1 u.2.2.1 u.2.2.2)) (fun (u : IA × IA × Int32 × Int32) => K' u.1 u.2.1 u.2.2.1 u.2.2.2)) (ha : am p s m args c cX11_goesOn 4 RX11 wsX11_goesOn D cy A) (hr : rtV p l e { frames := 8 + (d + 1), cells := 0, slots := 0, locals := 671 + 100 * (d + 1) } s m args below meth c 0 0 Q cX11_goesOn D A (fun (u : IA × IA × Int32 × Int32) => (w_X11_goesOn cy a_this a_s a_met a_best w_refusals w_image w_read w_tape w_told w_kept w_squares w_far w_queue u.1 v_isImage v_taped v_at v_met v_wrongHour v_wrongThing u.2.1 u.2.2.1 u.2.2.2)) (fun (u : IA × IA × Int32 × Int32) => K u.1 u.2.1 u.2.2.1 u.2.2.2)) : ∀ (n : Nat) (x3 : Int32) (v_best : IA) (H : Heap) (locs : List Loc) (ls : Array Slot), wp_X11_goesOn_54 G x1 v_s v_soonest v_bestSteps K n x3 v_best → wd D A s.heap (w_X11_goesOn cy a_this a_s a_met a_best w_refusals w_image w_read w_tape w_told w_kept w_squares w_far w_queue v_s v_isImage v_taped v_at v_met v_wrongHour v_wrongThing v_best v_soonest v_bestSteps) H locs → lv_has ls 4 [(0, .ref a_this), (1, .int x1), (3, .int x3)] → W p l e { frames := 8 + (d + 1), cells := 0, slots := 0, locals := 671 + 100 * (d + 1) } s m args below meth c H locs 0 0 Q (F0 m 54 ls []) := by
  have hx := ha.1
  have hb := ha.2.1
  intro n
  induction n with
  | zero => exact fun _ _ _ _ _ h _ _ => False.elim h
  | succ n ih =>
    intro x3 v_best H locs ls h hw hl
    have h : (((2 : Int32) * x1) ≤ x3 → K v_s v_best v_soonest v_bestSteps) ∧ (¬ (((2 : Int32) * x1) ≤ x3) → vp_in ((77 : Int32) + x3) 120 ∧ (vp_in x3 16 ∧ (wp_X11_goesOn_54 G x1 v_s v_soonest v_bestSteps K n (x3 + (1 : Int32)) (upd v_best x3.toNatClampNeg (v_s ((77 : Int32) + x3).toNatClampNeg))))) := h
    refine lv_iload_n hx hb dX11_goesOn_54 rfl (lv_at hl 2 rfl) ?_
    refine lv_iconst (v := (2 : Int32)) hx hb dX11_goesOn_55 (by decide) ?_
    refine lv_iload_n hx hb dX11_goesOn_56 rfl (lv_at hl 1 rfl) ?_
    refine lv_imul hx hb dX11_goesOn_57 ?_
    refine lv_icmp_ge (tgt := 82) hx hb dX11_goesOn_58 (by decide) (fun c17 => ?_) (fun c17 => ?_)
    · have h := h.1 c17
      exact hr _ (v_s, v_best, v_soonest, v_bestSteps) _ _ _ dX11_goesOn_82 h hw
    · have h := h.2 c17
      refine lv_aload_n hx hb dX11_goesOn_61 rfl (lv_at hl 0 rfl) ?_
      refine g_get (ci := 11) ha hw 0 12 rfl hi_X11_goesOn_11 (by decide) (List.mem_of_getElem? (i := 4) rfl) rfl rfl dX11_goesOn_62 ?_
      refine lv_iload_n hx hb dX11_goesOn_65 rfl (lv_at hl 2 rfl) ?_
      refine lv_aload_n hx hb dX11_goesOn_66 rfl (lv_at hl 0 rfl) ?_
      refine g_get (ci := 11) ha hw 0 1 rfl hi_X11_goesOn_11 (by decide) (List.mem_of_getElem? (i := 1) rfl) rfl rfl dX11_goesOn_67 ?_
      refine lv_bipush (v := (77 : Int32)) hx hb dX11_goesOn_70 (by decide) ?_
      refine lv_iload_n hx hb dX11_goesOn_72 rfl (lv_at hl 2 rfl) ?_
      refine lv_iadd hx hb dX11_goesOn_73 ?_
      obtain ⟨z18, h⟩ := h
      refine g_ald ha hw 1 rfl z18 dX11_goesOn_74 ?_
      obtain ⟨z19, h⟩ := h
      refine g_ast (wn := (w_X11_goesOn cy a_this a_s a_met a_best w_refusals w_image w_read w_tape w_told w_kept w_squares w_far w_queue v_s v_isImage v_taped v_at v_met v_wrongHour v_wrongThing (upd v_best x3.toNatClampNeg (v_s ((77 : Int32) + x3).toNatClampNeg)) v_soonest v_bestSteps)) ha hw 3 rfl z19 rfl dX11_goesOn_75 (fun H locs hw => ?_)
      refine lv_iinc (v := x3 + (1 : Int32)) (lv' := [(3, .int (x3 + (1 : Int32))), (0, .ref a_this), (1, .int x1)]) hx hb dX11_goesOn_76 hl (k := 2) rfl rfl (by decide) rfl (fun ls hl => ?_)
      refine lv_goto (tgt := 54) hx hb dX11_goesOn_79 (by decide) ?_
      exact ih _ _ _ _ _ h hw (lv_sub hl [1, 2, 0] rfl)
def wp_X11_goesOn_25 (G : Int32 → IA → IA → IA → Int32 → Int32 → (IA → IA → Int32 → Int32 → Prop) → Prop) (x1 : Int32) (v_s : IA) (K : IA → IA → Int32 → Int32 → Prop) (v_best : IA) (v_soonest : Int32) (v_bestSteps : Int32) (t0 : Int32) : Prop := (v_soonest < 0 → ∃ n20 : Nat, wp_X11_goesOn_54 G x1 v_s t0 x1 K n20 (0 : Int32) v_best) ∧ (¬ (v_soonest < 0) → (t0 < v_soonest → ∃ n22 : Nat, wp_X11_goesOn_54 G x1 v_s t0 x1 K n22 (0 : Int32) v_best) ∧ (¬ (t0 < v_soonest) → K v_s v_best v_soonest v_bestSteps))
set_option maxHeartbeats 4000000 in
set_option maxRecDepth 100000 in
theorem pl_X11_goesOn_25 {p : Program} {l : Launch} {e : Env} {s : State} {m : MethodId} {args : Array Value} {below : List Frame} {meth : Method} {c : Code} {A : Nat → Prop} {Q : State → Prop} {D : va_G} {cy : ClassId} {d : Nat} {a_this a_s a_met a_best : Nat} {w_refusals w_image w_read w_tape w_told w_kept w_squares w_far w_queue : Value} {v_s : IA} {v_isImage : Int32} {v_taped : Int32} {v_at : Int32} {v_met : IA} {v_wrongHour : Int32} {v_wrongThing : Int32} {x1 : Int32} {K : IA → IA → Int32 → Int32 → Prop} {G : Int32 → IA → IA → IA → Int32 → Int32 → (IA → IA → Int32 → Int32 → Prop) → Prop} (hrec : ∀ {x1' : Int32} {v_s' : IA} {v_best' : IA} {v_soonest' : Int32} {v_bestSteps' : Int32} {K' : IA → IA → Int32 → Int32 → Prop}, CtV l yX11_goesOn wsX11_goesOn { frames := 8 + d, cells := 0, slots := 0, locals := 671 + 100 * d } 0 0 D cy [.ref a_this, .int x1'] (w_X11_goesOn cy a_this a_s a_met a_best w_refusals w_image w_read w_tape w_told w_kept w_squares w_far w_queue v_s' v_isImage v_taped v_at v_met v_wrongHour v_wrongThing v_best' v_soonest' v_bestSteps') (G x1' v_s' v_met v_best' v_soonest' v_bestSteps' K') (fun (u : IA × IA × Int32 × Int32) => (w_X11_goesOn cy a_this a_s a_met a_best w_refusals w_image w_read w_tape w_told w_kept w_squares w_far w_queue u.1 v_isImage v_taped v_at v_met v_wrongHour v_wrongThing u.2.1 u.2.2.1 u.2.2.2)) (fun (u : IA × IA × Int32 × Int32) => K' u.1 u.2.1 u.2.2.1 u.2.2.2)) (ha : am p s m args c cX11_goesOn 4 RX11 wsX11_goesOn D cy A) (hr : rtV p l e { frames := 8 + (d + 1), cells := 0, slots := 0, locals := 671 + 100 * (d + 1) } s m args below meth c 0 0 Q cX11_goesOn D A (fun (u : IA × IA × Int32 × Int32) => (w_X11_goesOn cy a_this a_s a_met a_best w_refusals w_image w_read w_tape w_told w_kept w_squares w_far w_queue u.1 v_isImage v_taped v_at v_met v_wrongHour v_wrongThing u.2.1 u.2.2.1 u.2.2.2)) (fun (u : IA × IA × Int32 × Int32) => K u.1 u.2.1 u.2.2.1 u.2.2.2)) {v_best : IA} {v_soonest : Int32} {v_bestSteps : Int32} {t0 : Int32} {H : Heap} {locs : List Loc} {ls : Array Slot} : wp_X11_goesOn_25 G x1 v_s K v_best v_soonest v_bestSteps t0 → wd D A s.heap (w_X11_goesOn cy a_this a_s a_met a_best w_refusals w_image w_read w_tape w_told w_kept w_squares w_far w_queue v_s v_isImage v_taped v_at v_met v_wrongHour v_wrongThing v_best v_soonest v_bestSteps) H locs → lv_has ls 4 [(0, .ref a_this), (1, .int x1)] → W p l e { frames := 8 + (d + 1), cells := 0, slots := 0, locals := 671 + 100 * (d + 1) } s m args below meth c H locs 0 0 Q (F0 m 25 ls [.int t0]) := by
  have hx := ha.1
  have hb := ha.2.1
  intro h hw hl
  have h : (v_soonest < 0 → ∃ n20 : Nat, wp_X11_goesOn_54 G x1 v_s t0 x1 K n20 (0 : Int32) v_best) ∧ (¬ (v_soonest < 0) → (t0 < v_soonest → ∃ n22 : Nat, wp_X11_goesOn_54 G x1 v_s t0 x1 K n22 (0 : Int32) v_best) ∧ (¬ (t0 < v_soonest) → K v_s v_best v_soonest v_bestSteps)) := h
  refine lv_istore_n (lv' := [(2, .int t0), (0, .ref a_this), (1, .int x1)]) hx hb dX11_goesOn_25 rfl hl (by decide) rfl (fun ls hl => ?_)
  refine lv_aload_n hx hb dX11_goesOn_26 rfl (lv_at hl 1 rfl) ?_
  refine g_get (ci := 11) ha hw 0 14 rfl hi_X11_goesOn_11 (by decide) (List.mem_of_getElem? (i := 2) rfl) rfl rfl dX11_goesOn_27 ?_
  refine lv_if_lt (tgt := 42) hx hb dX11_goesOn_30 (by decide) (fun c16 => ?_) (fun c16 => ?_)
  · have h := h.1 c16
    refine lv_aload_n hx hb dX11_goesOn_42 rfl (lv_at hl 1 rfl) ?_
    refine lv_iload_n hx hb dX11_goesOn_43 rfl (lv_at hl 0 rfl) ?_
    refine g_put (ci := 11) (wn := (w_X11_goesOn cy a_this a_s a_met a_best w_refusals w_image w_read w_tape w_told w_kept w_squares w_far w_queue v_s v_isImage v_taped v_at v_met v_wrongHour v_wrongThing v_best t0 v_bestSteps)) ha hw 0 14 rfl hi_X11_goesOn_11 tyX11_ok nmX11 (by decide) (List.mem_of_getElem? (i := 2) rfl) rfl rfl rfl rfl (Nat.le_of_ble_eq_true rfl) rfl dX11_goesOn_44 (fun H locs hw => ?_)
    refine lv_aload_n hx hb dX11_goesOn_47 rfl (lv_at hl 1 rfl) ?_
    refine lv_iload_n hx hb dX11_goesOn_48 rfl (lv_at hl 2 rfl) ?_
    refine g_put (ci := 11) (wn := (w_X11_goesOn cy a_this a_s a_met a_best w_refusals w_image w_read w_tape w_told w_kept w_squares w_far w_queue v_s v_isImage v_taped v_at v_met v_wrongHour v_wrongThing v_best t0 x1)) ha hw 0 15 rfl hi_X11_goesOn_11 tyX11_ok nmX11 (by decide) (List.mem_of_getElem? (i := 3) rfl) rfl rfl rfl rfl (Nat.le_of_ble_eq_true rfl) rfl dX11_goesOn_49 (fun H locs hw => ?_)
    refine lv_iconst (v := (0 : Int32)) hx hb dX11_goesOn_52 (by decide) ?_
    refine lv_istore_n (lv' := [(3, .int (0 : Int32)), (2, .int t0), (0, .ref a_this), (1, .int x1)]) hx hb dX11_goesOn_53 rfl hl (by decide) rfl (fun ls hl => ?_)
    obtain ⟨n9, h⟩ := h
    refine pl_X11_goesOn_54 hrec ha hr n9 _ _ _ _ _ h hw (lv_sub hl [2, 3, 0] rfl)
  · have h := h.2 c16
    refine lv_iload_n hx hb dX11_goesOn_33 rfl (lv_at hl 0 rfl) ?_
    refine lv_aload_n hx hb dX11_goesOn_34 rfl (lv_at hl 1 rfl) ?_
    refine g_get (ci := 11) ha hw 0 14 rfl hi_X11_goesOn_11 (by decide) (List.mem_of_getElem? (i := 2) rfl) rfl rfl dX11_goesOn_35 ?_
    refine lv_icmp_lt (tgt := 42) hx hb dX11_goesOn_38 (by decide) (fun c21 => ?_) (fun c21 => ?_)
    · have h := h.1 c21
      refine lv_aload_n hx hb dX11_goesOn_42 rfl (lv_at hl 1 rfl) ?_
      refine lv_iload_n hx hb dX11_goesOn_43 rfl (lv_at hl 0 rfl) ?_
      refine g_put (ci := 11) (wn := (w_X11_goesOn cy a_this a_s a_met a_best w_refusals w_image w_read w_tape w_told w_kept w_squares w_far w_queue v_s v_isImage v_taped v_at v_met v_wrongHour v_wrongThing v_best t0 v_bestSteps)) ha hw 0 14 rfl hi_X11_goesOn_11 tyX11_ok nmX11 (by decide) (List.mem_of_getElem? (i := 2) rfl) rfl rfl rfl rfl (Nat.le_of_ble_eq_true rfl) rfl dX11_goesOn_44 (fun H locs hw => ?_)
      refine lv_aload_n hx hb dX11_goesOn_47 rfl (lv_at hl 1 rfl) ?_
      refine lv_iload_n hx hb dX11_goesOn_48 rfl (lv_at hl 2 rfl) ?_
      refine g_put (ci := 11) (wn := (w_X11_goesOn cy a_this a_s a_met a_best w_refusals w_image w_read w_tape w_told w_kept w_squares w_far w_queue v_s v_isImage v_taped v_at v_met v_wrongHour v_wrongThing v_best t0 x1)) ha hw 0 15 rfl hi_X11_goesOn_11 tyX11_ok nmX11 (by decide) (List.mem_of_getElem? (i := 3) rfl) rfl rfl rfl rfl (Nat.le_of_ble_eq_true rfl) rfl dX11_goesOn_49 (fun H locs hw => ?_)
      refine lv_iconst (v := (0 : Int32)) hx hb dX11_goesOn_52 (by decide) ?_
      refine lv_istore_n (lv' := [(3, .int (0 : Int32)), (2, .int t0), (0, .ref a_this), (1, .int x1)]) hx hb dX11_goesOn_53 rfl hl (by decide) rfl (fun ls hl => ?_)
      obtain ⟨n9, h⟩ := h
      refine pl_X11_goesOn_54 hrec ha hr n9 _ _ _ _ _ h hw (lv_sub hl [2, 3, 0] rfl)
    · have h := h.2 c21
      exact hr _ (v_s, v_best, v_soonest, v_bestSteps) _ _ _ dX11_goesOn_41 h hw
def wp_X11_goesOn : Nat → Int32 → IA → IA → IA → Int32 → Int32 → (IA → IA → Int32 → Int32 → Prop) → Prop
  | 0 => fun _ _ _ _ _ _ _ => False
  | d + 1 => fun (x1 : Int32) (v_s : IA) (v_met : IA) (v_best : IA) (v_soonest : Int32) (v_bestSteps : Int32) (K : IA → IA → Int32 → Int32 → Prop) => ((v_s (3 : Int32).toNatClampNeg) = x1 → (x1 = 0 → wp_X11_goesOn_25 (wp_X11_goesOn d) x1 v_s K v_best v_soonest v_bestSteps (0 : Int32)) ∧ (¬ (x1 = 0) → wp_X11_endOf (x1 - (1 : Int32)) v_s (fun (r15 : Int32) => wp_X11_goesOn_25 (wp_X11_goesOn d) x1 v_s K v_best v_soonest v_bestSteps r15))) ∧ (¬ ((v_s (3 : Int32).toNatClampNeg) = x1) → ∃ n13 : Nat, wp_X11_goesOn_85 (wp_X11_goesOn d) x1 v_met K n13 (1 : Int32) v_s v_best v_soonest v_bestSteps)
set_option maxHeartbeats 4000000 in
set_option maxRecDepth 100000 in
theorem c_X11_goesOn {l : Launch} {D : va_G} {cy : ClassId} {a_this a_s a_met a_best : Nat} {w_refusals w_image w_read w_tape w_told w_kept w_squares w_far w_queue : Value} {v_isImage : Int32} {v_taped : Int32} {v_at : Int32} {v_met : IA} {v_wrongHour : Int32} {v_wrongThing : Int32} : ∀ (d : Nat) {x1 : Int32} {v_s : IA} {v_best : IA} {v_soonest : Int32} {v_bestSteps : Int32} {K : IA → IA → Int32 → Int32 → Prop}, CtV l yX11_goesOn wsX11_goesOn { frames := 8 + d, cells := 0, slots := 0, locals := 671 + 100 * d } 0 0 D cy [.ref a_this, .int x1] (w_X11_goesOn cy a_this a_s a_met a_best w_refusals w_image w_read w_tape w_told w_kept w_squares w_far w_queue v_s v_isImage v_taped v_at v_met v_wrongHour v_wrongThing v_best v_soonest v_bestSteps) (wp_X11_goesOn d x1 v_s v_met v_best v_soonest v_bestSteps K) (fun (u : IA × IA × Int32 × Int32) => (w_X11_goesOn cy a_this a_s a_met a_best w_refusals w_image w_read w_tape w_told w_kept w_squares w_far w_queue u.1 v_isImage v_taped v_at v_met v_wrongHour v_wrongThing u.2.1 u.2.2.1 u.2.2.2)) (fun (u : IA × IA × Int32 × Int32) => K u.1 u.2.1 u.2.2.1 u.2.2.2) := by
  intro d
  induction d with
  | zero =>
    intro x1 v_s v_best v_soonest v_bestSteps K
    refine CtV.mk (cc := cX11_goesOn) (nL := 4) (by decide) rfl (Nat.le_of_ble_eq_true rfl) ?_
    intro p e s m args below meth c A Q ha hr _ h ls hl hw
    exact False.elim h
  | succ d hrec =>
    intro x1 v_s v_best v_soonest v_bestSteps K
    refine CtV.mk (cc := cX11_goesOn) (nL := 4) (by decide) rfl (Nat.le_of_ble_eq_true rfl) ?_
    intro p e s m args below meth c A Q ha hr _ h ls hl hw
    have ha : am p s m args c cX11_goesOn 4 RX11 wsX11_goesOn D cy A := ha
    have hx := ha.1
    have hb := ha.2.1
    have hl : lv_has ls 4 [(0, .ref a_this), (1, .int x1)] := hl
    have h : ((v_s (3 : Int32).toNatClampNeg) = x1 → (x1 = 0 → wp_X11_goesOn_25 (wp_X11_goesOn d) x1 v_s K v_best v_soonest v_bestSteps (0 : Int32)) ∧ (¬ (x1 = 0) → wp_X11_endOf (x1 - (1 : Int32)) v_s (fun (r15 : Int32) => wp_X11_goesOn_25 (wp_X11_goesOn d) x1 v_s K v_best v_soonest v_bestSteps r15))) ∧ (¬ ((v_s (3 : Int32).toNatClampNeg) = x1) → ∃ n13 : Nat, wp_X11_goesOn_85 (wp_X11_goesOn d) x1 v_met K n13 (1 : Int32) v_s v_best v_soonest v_bestSteps) := h
    refine lv_aload_n hx hb dX11_goesOn_0 rfl (lv_at hl 0 rfl) ?_
    refine g_get (ci := 11) ha hw 0 1 rfl hi_X11_goesOn_11 (by decide) (List.mem_of_getElem? (i := 1) rfl) rfl rfl dX11_goesOn_1 ?_
    refine lv_iconst (v := (3 : Int32)) hx hb dX11_goesOn_4 (by decide) ?_
    refine g_ald ha hw 1 rfl (vp_in_iff.mpr (by decide)) dX11_goesOn_5 ?_
    refine lv_iload_n hx hb dX11_goesOn_6 rfl (lv_at hl 1 rfl) ?_
    refine lv_icmp_ne (tgt := 83) hx hb dX11_goesOn_7 (by decide) (fun c1 => ?_) (fun c1 => ?_)
    · have h := h.2 c1
      refine lv_iconst (v := (1 : Int32)) hx hb dX11_goesOn_83 (by decide) ?_
      refine lv_istore_n (lv' := [(2, .int (1 : Int32)), (0, .ref a_this), (1, .int x1)]) hx hb dX11_goesOn_84 rfl hl (by decide) rfl (fun ls hl => ?_)
      obtain ⟨n9, h⟩ := h
      refine pl_X11_goesOn_85 hrec ha hr n9 _ _ _ _ _ _ _ _ h hw (lv_sub hl [1, 2, 0] rfl)
    · have h := h.1 c1
      refine lv_iload_n hx hb dX11_goesOn_10 rfl (lv_at hl 1 rfl) ?_
      refine lv_if_ne (tgt := 18) hx hb dX11_goesOn_11 (by decide) (fun c14 => ?_) (fun c14 => ?_)
      · have h := h.2 c14
        refine lv_aload_n hx hb dX11_goesOn_18 rfl (lv_at hl 0 rfl) ?_
        refine lv_iload_n hx hb dX11_goesOn_19 rfl (lv_at hl 1 rfl) ?_
        refine lv_iconst (v := (1 : Int32)) hx hb dX11_goesOn_20 (by decide) ?_
        refine lv_isub hx hb dX11_goesOn_21 ?_
        refine g_cvi (rm := { frames := 2, cells := 0, slots := 0, locals := 149 }) (wn := (fun (u : Unit) => (w_X11_goesOn cy a_this a_s a_met a_best w_refusals w_image w_read w_tape w_told w_kept w_squares w_far w_queue v_s v_isImage v_taped v_at v_met v_wrongHour v_wrongThing v_best v_soonest v_bestSteps))) (As := [.int (x1 - (1 : Int32))]) ha hw hl.1 (c_X11_endOf (cy := cy)) (cwV 1 ha.2.2.2.2.1 gX11_goesOn_X11_endOf rfl rfl rfl hq_X11_endOf ⟨(show 2 + 1 ≤ 8 + (d + 1) by omega), (show 8 + (2 + 11) + (149) ≤ 671 + 100 * (d + 1) by omega)⟩) [0, 1] [2, 3] [2, 3, 0, 1] rfl rfl rfl rfl (by decide) rfl (fun _ => rfl) rfl rfl h rfl rfl (Nat.le_of_ble_eq_true rfl) dX11_goesOn_22 ⟨Nat.le_refl _, Nat.le_refl _⟩ (fun r15 u H locs h hw => ?_)
        have hw : wd D A s.heap (w_X11_goesOn cy a_this a_s a_met a_best w_refusals w_image w_read w_tape w_told w_kept w_squares w_far w_queue v_s v_isImage v_taped v_at v_met v_wrongHour v_wrongThing v_best v_soonest v_bestSteps) H locs := hw
        try dsimp only at h
        refine pl_X11_goesOn_25 hrec ha hr h hw (lv_sub hl [0, 1] rfl)
      · have h := h.1 c14
        refine lv_iconst (v := (0 : Int32)) hx hb dX11_goesOn_14 (by decide) ?_
        refine lv_goto (tgt := 25) hx hb dX11_goesOn_15 (by decide) ?_
        refine pl_X11_goesOn_25 hrec ha hr h hw (lv_sub hl [0, 1] rfl)
theorem hq_X11_findSoonest : yX11_findSoonest.cls = RX11 ∧ yX11_findSoonest.cls ≠ "java/lang/invoke/MethodHandle" ∧ yX11_findSoonest.cls ≠ "java/lang/invoke/VarHandle" ∧ (parseMethodDescriptor yX11_findSoonest.desc).map (fun d => d.parameters.length) = some 0 := by decide +kernel
def w_X11_findSoonest (cy : ClassId) (a_this a_s a_met a_best a_kept : Nat) (w_refusals w_image w_read w_tape w_told w_squares w_far w_queue : Value) (v_s : IA) (v_isImage : Int32) (v_taped : Int32) (v_at : Int32) (v_met : IA) (v_wrongHour : Int32) (v_wrongThing : Int32) (v_best : IA) (v_kept : IA) (v_soonest : Int32) (v_bestSteps : Int32) : va_W := [(a_this, .inr (11, [w_refusals, .ref a_s, w_image, w_read, .int v_isImage, w_tape, w_told, .int v_taped, .int v_at, .ref a_met, .int v_wrongHour, .int v_wrongThing, .ref a_best, .ref a_kept, .int v_soonest, .int v_bestSteps, w_squares, w_far, w_queue])), (a_s, .inl (cy, 120, .inl v_s)), (a_met, .inl (cy, 64, .inl v_met)), (a_best, .inl (cy, 16, .inl v_best)), (a_kept, .inl (cy, 16, .inl v_kept))]
theorem hi_X11_findSoonest_11 : ∀ w ∈ u_ws RX11 TX11 19, w ∈ wsX11_findSoonest := fun _ h => List.mem_cons_of_mem _ (List.mem_append_right _ h)
def wp_X11_findSoonest_9 (v_s : IA) (E36 : IA → Prop) (K : IA → IA → IA → IA → Int32 → Int32 → Prop) : Nat → Int32 → IA → Prop
  | 0, _, _ => False
  | n + 1, x2, v_kept => ((16 : Int32) ≤ x2 → E36 v_kept) ∧ (¬ ((16 : Int32) ≤ x2) → vp_in ((77 : Int32) + x2) 120 ∧ (vp_in x2 16 ∧ (wp_X11_findSoonest_9 v_s E36 K n (x2 + (1 : Int32)) (upd v_kept x2.toNatClampNeg (v_s ((77 : Int32) + x2).toNatClampNeg)))))
set_option maxHeartbeats 4000000 in
set_option maxRecDepth 100000 in
theorem pl_X11_findSoonest_9 {p : Program} {l : Launch} {e : Env} {s : State} {m : MethodId} {args : Array Value} {below : List Frame} {meth : Method} {c : Code} {A : Nat → Prop} {Q : State → Prop} {D : va_G} {cy : ClassId} {a_this a_s a_met a_best a_kept : Nat} {w_refusals w_image w_read w_tape w_told w_squares w_far w_queue : Value} {v_s : IA} {v_isImage : Int32} {v_taped : Int32} {v_at : Int32} {v_met : IA} {v_wrongHour : Int32} {v_wrongThing : Int32} {v_best : IA} {v_soonest : Int32} {v_bestSteps : Int32} {x1 : Int32} {K : IA → IA → IA → IA → Int32 → Int32 → Prop} {E36 : IA → Prop} (ha : am p s m args c cX11_findSoonest 3 RX11 wsX11_findSoonest D cy A) (hr : rtV p l e { frames := 17, cells := 0, slots := 0, locals := 1558 } s m args below meth c 0 0 Q cX11_findSoonest D A (fun (u : IA × IA × IA × IA × Int32 × Int32) => (w_X11_findSoonest cy a_this a_s a_met a_best a_kept w_refusals w_image w_read w_tape w_told w_squares w_far w_queue u.1 v_isImage v_taped v_at u.2.1 v_wrongHour v_wrongThing u.2.2.1 u.2.2.2.1 u.2.2.2.2.1 u.2.2.2.2.2)) (fun (u : IA × IA × IA × IA × Int32 × Int32) => K u.1 u.2.1 u.2.2.1 u.2.2.2.1 u.2.2.2.2.1 u.2.2.2.2.2)) (hE36 : ∀ (v_kept' : IA) (H : Heap) (locs : List Loc) (ls : Array Slot), E36 v_kept' → wd D A s.heap (w_X11_findSoonest cy a_this a_s a_met a_best a_kept w_refusals w_image w_read w_tape w_told w_squares w_far w_queue v_s v_isImage v_taped v_at v_met v_wrongHour v_wrongThing v_best v_kept' v_soonest v_bestSteps) H locs → lv_has ls 3 [(0, .ref a_this), (1, .int x1)] → W p l e { frames := 17, cells := 0, slots := 0, locals := 1558 } s m args below meth c H locs 0 0 Q (F0 m 36 ls [])) : ∀ (n : Nat) (x2 : Int32) (v_kept : IA) (H : Heap) (locs : List Loc) (ls : Array Slot), wp_X11_findSoonest_9 v_s E36 K n x2 v_kept → wd D A s.heap (w_X11_findSoonest cy a_this a_s a_met a_best a_kept w_refusals w_image w_read w_tape w_told w_squares w_far w_queue v_s v_isImage v_taped v_at v_met v_wrongHour v_wrongThing v_best v_kept v_soonest v_bestSteps) H locs → lv_has ls 3 [(0, .ref a_this), (1, .int x1), (2, .int x2)] → W p l e { frames := 17, cells := 0, slots := 0, locals := 1558 } s m args below meth c H locs 0 0 Q (F0 m 9 ls []) := by
  have hx := ha.1
  have hb := ha.2.1
  intro n
  induction n with
  | zero => exact fun _ _ _ _ _ h _ _ => False.elim h
  | succ n ih =>
    intro x2 v_kept H locs ls h hw hl
    have h : ((16 : Int32) ≤ x2 → E36 v_kept) ∧ (¬ ((16 : Int32) ≤ x2) → vp_in ((77 : Int32) + x2) 120 ∧ (vp_in x2 16 ∧ (wp_X11_findSoonest_9 v_s E36 K n (x2 + (1 : Int32)) (upd v_kept x2.toNatClampNeg (v_s ((77 : Int32) + x2).toNatClampNeg))))) := h
    refine lv_iload_n hx hb dX11_findSoonest_9 rfl (lv_at hl 2 rfl) ?_
    refine lv_bipush (v := (16 : Int32)) hx hb dX11_findSoonest_10 (by decide) ?_
    refine lv_icmp_ge (tgt := 36) hx hb dX11_findSoonest_12 (by decide) (fun c2 => ?_) (fun c2 => ?_)
    · have h := h.1 c2
      exact hE36 _ _ _ _ h hw (lv_sub hl [0, 1] rfl)
    · have h := h.2 c2
      refine lv_aload_n hx hb dX11_findSoonest_15 rfl (lv_at hl 0 rfl) ?_
      refine g_get (ci := 11) ha hw 0 13 rfl hi_X11_findSoonest_11 (by decide) (List.mem_of_getElem? (i := 2) rfl) rfl rfl dX11_findSoonest_16 ?_
      refine lv_iload_n hx hb dX11_findSoonest_19 rfl (lv_at hl 2 rfl) ?_
      refine lv_aload_n hx hb dX11_findSoonest_20 rfl (lv_at hl 0 rfl) ?_
      refine g_get (ci := 11) ha hw 0 1 rfl hi_X11_findSoonest_11 (by decide) (List.mem_of_getElem? (i := 1) rfl) rfl rfl dX11_findSoonest_21 ?_
      refine lv_bipush (v := (77 : Int32)) hx hb dX11_findSoonest_24 (by decide) ?_
      refine lv_iload_n hx hb dX11_findSoonest_26 rfl (lv_at hl 2 rfl) ?_
      refine lv_iadd hx hb dX11_findSoonest_27 ?_
      obtain ⟨z3, h⟩ := h
      refine g_ald ha hw 1 rfl z3 dX11_findSoonest_28 ?_
      obtain ⟨z4, h⟩ := h
      refine g_ast (wn := (w_X11_findSoonest cy a_this a_s a_met a_best a_kept w_refusals w_image w_read w_tape w_told w_squares w_far w_queue v_s v_isImage v_taped v_at v_met v_wrongHour v_wrongThing v_best (upd v_kept x2.toNatClampNeg (v_s ((77 : Int32) + x2).toNatClampNeg)) v_soonest v_bestSteps)) ha hw 4 rfl z4 rfl dX11_findSoonest_29 (fun H locs hw => ?_)
      refine lv_iinc (v := x2 + (1 : Int32)) (lv' := [(2, .int (x2 + (1 : Int32))), (0, .ref a_this), (1, .int x1)]) hx hb dX11_findSoonest_30 hl (k := 2) rfl rfl (by decide) rfl (fun ls hl => ?_)
      refine lv_goto (tgt := 9) hx hb dX11_findSoonest_33 (by decide) ?_
      exact ih _ _ _ _ _ h hw (lv_sub hl [1, 2, 0] rfl)
def wp_X11_findSoonest_70 (v_met : IA) (v_best : IA) (v_kept : IA) (v_soonest : Int32) (v_bestSteps : Int32) (K : IA → IA → IA → IA → Int32 → Int32 → Prop) : Nat → Int32 → IA → Prop
  | 0, _, _ => False
  | n + 1, x2, v_s => ((16 : Int32) ≤ x2 → K v_s v_met v_best v_kept v_soonest v_bestSteps) ∧ (¬ ((16 : Int32) ≤ x2) → vp_in x2 16 ∧ (vp_in ((77 : Int32) + x2) 120 ∧ (wp_X11_findSoonest_70 v_met v_best v_kept v_soonest v_bestSteps K n (x2 + (1 : Int32)) (upd v_s ((77 : Int32) + x2).toNatClampNeg (v_kept x2.toNatClampNeg)))))
set_option maxHeartbeats 4000000 in
set_option maxRecDepth 100000 in
theorem pl_X11_findSoonest_70 {p : Program} {l : Launch} {e : Env} {s : State} {m : MethodId} {args : Array Value} {below : List Frame} {meth : Method} {c : Code} {A : Nat → Prop} {Q : State → Prop} {D : va_G} {cy : ClassId} {a_this a_s a_met a_best a_kept : Nat} {w_refusals w_image w_read w_tape w_told w_squares w_far w_queue : Value} {v_isImage : Int32} {v_taped : Int32} {v_at : Int32} {v_met : IA} {v_wrongHour : Int32} {v_wrongThing : Int32} {v_best : IA} {v_kept : IA} {v_soonest : Int32} {v_bestSteps : Int32} {K : IA → IA → IA → IA → Int32 → Int32 → Prop} (ha : am p s m args c cX11_findSoonest 3 RX11 wsX11_findSoonest D cy A) (hr : rtV p l e { frames := 17, cells := 0, slots := 0, locals := 1558 } s m args below meth c 0 0 Q cX11_findSoonest D A (fun (u : IA × IA × IA × IA × Int32 × Int32) => (w_X11_findSoonest cy a_this a_s a_met a_best a_kept w_refusals w_image w_read w_tape w_told w_squares w_far w_queue u.1 v_isImage v_taped v_at u.2.1 v_wrongHour v_wrongThing u.2.2.1 u.2.2.2.1 u.2.2.2.2.1 u.2.2.2.2.2)) (fun (u : IA × IA × IA × IA × Int32 × Int32) => K u.1 u.2.1 u.2.2.1 u.2.2.2.1 u.2.2.2.2.1 u.2.2.2.2.2)) : ∀ (n : Nat) (x2 : Int32) (v_s : IA) (H : Heap) (locs : List Loc) (ls : Array Slot), wp_X11_findSoonest_70 v_met v_best v_kept v_soonest v_bestSteps K n x2 v_s → wd D A s.heap (w_X11_findSoonest cy a_this a_s a_met a_best a_kept w_refusals w_image w_read w_tape w_told w_squares w_far w_queue v_s v_isImage v_taped v_at v_met v_wrongHour v_wrongThing v_best v_kept v_soonest v_bestSteps) H locs → lv_has ls 3 [(0, .ref a_this), (2, .int x2)] → W p l e { frames := 17, cells := 0, slots := 0, locals := 1558 } s m args below meth c H locs 0 0 Q (F0 m 70 ls []) := by
  have hx := ha.1
  have hb := ha.2.1
  intro n
  induction n with
  | zero => exact fun _ _ _ _ _ h _ _ => False.elim h
  | succ n ih =>
    intro x2 v_s H locs ls h hw hl
    have h : ((16 : Int32) ≤ x2 → K v_s v_met v_best v_kept v_soonest v_bestSteps) ∧ (¬ ((16 : Int32) ≤ x2) → vp_in x2 16 ∧ (vp_in ((77 : Int32) + x2) 120 ∧ (wp_X11_findSoonest_70 v_met v_best v_kept v_soonest v_bestSteps K n (x2 + (1 : Int32)) (upd v_s ((77 : Int32) + x2).toNatClampNeg (v_kept x2.toNatClampNeg))))) := h
    refine lv_iload_n hx hb dX11_findSoonest_70 rfl (lv_at hl 1 rfl) ?_
    refine lv_bipush (v := (16 : Int32)) hx hb dX11_findSoonest_71 (by decide) ?_
    refine lv_icmp_ge (tgt := 97) hx hb dX11_findSoonest_73 (by decide) (fun c12 => ?_) (fun c12 => ?_)
    · have h := h.1 c12
      exact hr _ (v_s, v_met, v_best, v_kept, v_soonest, v_bestSteps) _ _ _ dX11_findSoonest_97 h hw
    · have h := h.2 c12
      refine lv_aload_n hx hb dX11_findSoonest_76 rfl (lv_at hl 0 rfl) ?_
      refine g_get (ci := 11) ha hw 0 1 rfl hi_X11_findSoonest_11 (by decide) (List.mem_of_getElem? (i := 1) rfl) rfl rfl dX11_findSoonest_77 ?_
      refine lv_bipush (v := (77 : Int32)) hx hb dX11_findSoonest_80 (by decide) ?_
      refine lv_iload_n hx hb dX11_findSoonest_82 rfl (lv_at hl 1 rfl) ?_
      refine lv_iadd hx hb dX11_findSoonest_83 ?_
      refine lv_aload_n hx hb dX11_findSoonest_84 rfl (lv_at hl 0 rfl) ?_
      refine g_get (ci := 11) ha hw 0 13 rfl hi_X11_findSoonest_11 (by decide) (List.mem_of_getElem? (i := 2) rfl) rfl rfl dX11_findSoonest_85 ?_
      refine lv_iload_n hx hb dX11_findSoonest_88 rfl (lv_at hl 1 rfl) ?_
      obtain ⟨z13, h⟩ := h
      refine g_ald ha hw 4 rfl z13 dX11_findSoonest_89 ?_
      obtain ⟨z14, h⟩ := h
      refine g_ast (wn := (w_X11_findSoonest cy a_this a_s a_met a_best a_kept w_refusals w_image w_read w_tape w_told w_squares w_far w_queue (upd v_s ((77 : Int32) + x2).toNatClampNeg (v_kept x2.toNatClampNeg)) v_isImage v_taped v_at v_met v_wrongHour v_wrongThing v_best v_kept v_soonest v_bestSteps)) ha hw 1 rfl z14 rfl dX11_findSoonest_90 (fun H locs hw => ?_)
      refine lv_iinc (v := x2 + (1 : Int32)) (lv' := [(2, .int (x2 + (1 : Int32))), (0, .ref a_this)]) hx hb dX11_findSoonest_91 hl (k := 1) rfl rfl (by decide) rfl (fun ls hl => ?_)
      refine lv_goto (tgt := 70) hx hb dX11_findSoonest_94 (by decide) ?_
      exact ih _ _ _ _ _ h hw (lv_sub hl [1, 0] rfl)
def wp_X11_findSoonest (v_s : IA) (v_met : IA) (v_best : IA) (v_kept : IA) (v_soonest : Int32) (v_bestSteps : Int32) (K : IA → IA → IA → IA → Int32 → Int32 → Prop) : Prop := ∀ x1_1 : Int32, x1_1 = v_s (3 : Int32).toNatClampNeg → ∃ n16 : Nat, wp_X11_findSoonest_9 v_s (fun (v_kept_5 : IA) => wp_X11_findMet (upd v_s (3 : Int32).toNatClampNeg (0 : Int32)) v_met (fun (v_met_6 : IA) => wp_X11_coatsInAll (upd v_s (3 : Int32).toNatClampNeg (0 : Int32)) (fun (r7 : Int32) => wp_X11_goesOn 8 r7 (upd v_s (3 : Int32).toNatClampNeg (0 : Int32)) v_met_6 v_best (-9 : Int32) v_bestSteps (fun (v_s_8 : IA) (v_best_9 : IA) (v_soonest_10 : Int32) (v_bestSteps_11 : Int32) => ∃ n15 : Nat, wp_X11_findSoonest_70 v_met_6 v_best_9 v_kept_5 v_soonest_10 v_bestSteps_11 K n15 (0 : Int32) (upd v_s_8 (3 : Int32).toNatClampNeg x1_1))))) K n16 (0 : Int32) v_kept
set_option maxHeartbeats 4000000 in
set_option maxRecDepth 100000 in
theorem c_X11_findSoonest {l : Launch} {D : va_G} {cy : ClassId} {a_this a_s a_met a_best a_kept : Nat} {w_refusals w_image w_read w_tape w_told w_squares w_far w_queue : Value} {v_s : IA} {v_isImage : Int32} {v_taped : Int32} {v_at : Int32} {v_met : IA} {v_wrongHour : Int32} {v_wrongThing : Int32} {v_best : IA} {v_kept : IA} {v_soonest : Int32} {v_bestSteps : Int32} {K : IA → IA → IA → IA → Int32 → Int32 → Prop} : CtV l yX11_findSoonest wsX11_findSoonest { frames := 17, cells := 0, slots := 0, locals := 1558 } 0 0 D cy [.ref a_this] (w_X11_findSoonest cy a_this a_s a_met a_best a_kept w_refusals w_image w_read w_tape w_told w_squares w_far w_queue v_s v_isImage v_taped v_at v_met v_wrongHour v_wrongThing v_best v_kept v_soonest v_bestSteps) (wp_X11_findSoonest v_s v_met v_best v_kept v_soonest v_bestSteps K) (fun (u : IA × IA × IA × IA × Int32 × Int32) => (w_X11_findSoonest cy a_this a_s a_met a_best a_kept w_refusals w_image w_read w_tape w_told w_squares w_far w_queue u.1 v_isImage v_taped v_at u.2.1 v_wrongHour v_wrongThing u.2.2.1 u.2.2.2.1 u.2.2.2.2.1 u.2.2.2.2.2)) (fun (u : IA × IA × IA × IA × Int32 × Int32) => K u.1 u.2.1 u.2.2.1 u.2.2.2.1 u.2.2.2.2.1 u.2.2.2.2.2) := by
  refine CtV.mk (cc := cX11_findSoonest) (nL := 3) (by decide) rfl (Nat.le_of_ble_eq_true rfl) ?_
  intro p e s m args below meth c A Q ha hr _ h ls hl hw
  have ha : am p s m args c cX11_findSoonest 3 RX11 wsX11_findSoonest D cy A := ha
  have hx := ha.1
  have hb := ha.2.1
  have hl : lv_has ls 3 [(0, .ref a_this)] := hl
  have h : ∀ x1_1 : Int32, x1_1 = v_s (3 : Int32).toNatClampNeg → ∃ n16 : Nat, wp_X11_findSoonest_9 v_s (fun (v_kept_5 : IA) => wp_X11_findMet (upd v_s (3 : Int32).toNatClampNeg (0 : Int32)) v_met (fun (v_met_6 : IA) => wp_X11_coatsInAll (upd v_s (3 : Int32).toNatClampNeg (0 : Int32)) (fun (r7 : Int32) => wp_X11_goesOn 8 r7 (upd v_s (3 : Int32).toNatClampNeg (0 : Int32)) v_met_6 v_best (-9 : Int32) v_bestSteps (fun (v_s_8 : IA) (v_best_9 : IA) (v_soonest_10 : Int32) (v_bestSteps_11 : Int32) => ∃ n15 : Nat, wp_X11_findSoonest_70 v_met_6 v_best_9 v_kept_5 v_soonest_10 v_bestSteps_11 K n15 (0 : Int32) (upd v_s_8 (3 : Int32).toNatClampNeg x1_1))))) K n16 (0 : Int32) v_kept := h
  refine lv_aload_n hx hb dX11_findSoonest_0 rfl (lv_at hl 0 rfl) ?_
  refine g_get (ci := 11) ha hw 0 1 rfl hi_X11_findSoonest_11 (by decide) (List.mem_of_getElem? (i := 1) rfl) rfl rfl dX11_findSoonest_1 ?_
  refine lv_iconst (v := (3 : Int32)) hx hb dX11_findSoonest_4 (by decide) ?_
  refine g_ald ha hw 1 rfl (vp_in_iff.mpr (by decide)) dX11_findSoonest_5 ?_
  refine lv_topi (fun x1_1 ex1_1 => ?_)
  have h := h x1_1 ex1_1
  refine lv_istore_n (lv' := [(1, .int x1_1), (0, .ref a_this)]) hx hb dX11_findSoonest_6 rfl hl (by decide) rfl (fun ls hl => ?_)
  refine lv_iconst (v := (0 : Int32)) hx hb dX11_findSoonest_7 (by decide) ?_
  refine lv_istore_n (lv' := [(2, .int (0 : Int32)), (1, .int x1_1), (0, .ref a_this)]) hx hb dX11_findSoonest_8 rfl hl (by decide) rfl (fun ls hl => ?_)
  obtain ⟨n9, h⟩ := h
  refine pl_X11_findSoonest_9 ha hr ?_ n9 _ _ _ _ _ h hw (lv_sub hl [2, 1, 0] rfl)
  · intro v_kept_5 H locs ls h hw hl
    try dsimp only at h
    refine lv_aload_n hx hb dX11_findSoonest_36 rfl (lv_at hl 0 rfl) ?_
    refine g_get (ci := 11) ha hw 0 1 rfl hi_X11_findSoonest_11 (by decide) (List.mem_of_getElem? (i := 1) rfl) rfl rfl dX11_findSoonest_37 ?_
    refine lv_iconst (v := (3 : Int32)) hx hb dX11_findSoonest_40 (by decide) ?_
    refine lv_iconst (v := (0 : Int32)) hx hb dX11_findSoonest_41 (by decide) ?_
    refine g_ast (wn := (w_X11_findSoonest cy a_this a_s a_met a_best a_kept w_refusals w_image w_read w_tape w_told w_squares w_far w_queue (upd v_s (3 : Int32).toNatClampNeg (0 : Int32)) v_isImage v_taped v_at v_met v_wrongHour v_wrongThing v_best v_kept_5 v_soonest v_bestSteps)) ha hw 1 rfl (vp_in_iff.mpr (by decide)) rfl dX11_findSoonest_42 (fun H locs hw => ?_)
    refine lv_aload_n hx hb dX11_findSoonest_43 rfl (lv_at hl 0 rfl) ?_
    refine lv_bipush (v := (-9 : Int32)) hx hb dX11_findSoonest_44 (by decide) ?_
    refine g_put (ci := 11) (wn := (w_X11_findSoonest cy a_this a_s a_met a_best a_kept w_refusals w_image w_read w_tape w_told w_squares w_far w_queue (upd v_s (3 : Int32).toNatClampNeg (0 : Int32)) v_isImage v_taped v_at v_met v_wrongHour v_wrongThing v_best v_kept_5 (-9 : Int32) v_bestSteps)) ha hw 0 14 rfl hi_X11_findSoonest_11 tyX11_ok nmX11 (by decide) (List.mem_of_getElem? (i := 3) rfl) rfl rfl rfl rfl (Nat.le_of_ble_eq_true rfl) rfl dX11_findSoonest_46 (fun H locs hw => ?_)
    refine lv_aload_n hx hb dX11_findSoonest_49 rfl (lv_at hl 0 rfl) ?_
    refine g_cvv (rm := { frames := 4, cells := 0, slots := 0, locals := 329 }) (wn := (fun (u : IA) => (w_X11_findSoonest cy a_this a_s a_met a_best a_kept w_refusals w_image w_read w_tape w_told w_squares w_far w_queue (upd v_s (3 : Int32).toNatClampNeg (0 : Int32)) v_isImage v_taped v_at u v_wrongHour v_wrongThing v_best v_kept_5 (-9 : Int32) v_bestSteps))) (As := []) ha hw hl.1 (c_X11_findMet (cy := cy)) (cwV 0 ha.2.2.2.2.1 gX11_findSoonest_X11_findMet rfl rfl rfl hq_X11_findMet ⟨Nat.le_of_ble_eq_true rfl, Nat.le_of_ble_eq_true rfl⟩) [0, 1, 2] [3, 4] [2, 3, 4, 0, 1] rfl rfl rfl rfl (by decide) rfl (fun _ => rfl) rfl rfl h rfl rfl (Nat.le_of_ble_eq_true rfl) dX11_findSoonest_50 ⟨Nat.le_refl _, Nat.le_refl _⟩ (fun u H locs h hw => ?_)
    obtain ⟨v_met_6, rfl⟩ : ∃ z, z = u := ⟨_, rfl⟩
    have hw : wd D A s.heap (w_X11_findSoonest cy a_this a_s a_met a_best a_kept w_refusals w_image w_read w_tape w_told w_squares w_far w_queue (upd v_s (3 : Int32).toNatClampNeg (0 : Int32)) v_isImage v_taped v_at v_met_6 v_wrongHour v_wrongThing v_best v_kept_5 (-9 : Int32) v_bestSteps) H locs := hw
    try dsimp only at h
    refine lv_aload_n hx hb dX11_findSoonest_53 rfl (lv_at hl 0 rfl) ?_
    refine lv_aload_n hx hb dX11_findSoonest_54 rfl (lv_at hl 0 rfl) ?_
    refine g_cvi (rm := { frames := 1, cells := 0, slots := 0, locals := 64 }) (wn := (fun (u : Unit) => (w_X11_findSoonest cy a_this a_s a_met a_best a_kept w_refusals w_image w_read w_tape w_told w_squares w_far w_queue (upd v_s (3 : Int32).toNatClampNeg (0 : Int32)) v_isImage v_taped v_at v_met_6 v_wrongHour v_wrongThing v_best v_kept_5 (-9 : Int32) v_bestSteps))) (As := []) ha hw hl.1 (c_X11_coatsInAll (cy := cy)) (cwV 0 ha.2.2.2.2.1 gX11_findSoonest_X11_coatsInAll rfl rfl rfl hq_X11_coatsInAll ⟨Nat.le_of_ble_eq_true rfl, Nat.le_of_ble_eq_true rfl⟩) [0, 1] [2, 3, 4] [3, 4, 0, 1, 2] rfl rfl rfl rfl (by decide) rfl (fun _ => rfl) rfl rfl h rfl rfl (Nat.le_of_ble_eq_true rfl) dX11_findSoonest_55 ⟨Nat.le_refl _, Nat.le_refl _⟩ (fun r7 u H locs h hw => ?_)
    have hw : wd D A s.heap (w_X11_findSoonest cy a_this a_s a_met a_best a_kept w_refusals w_image w_read w_tape w_told w_squares w_far w_queue (upd v_s (3 : Int32).toNatClampNeg (0 : Int32)) v_isImage v_taped v_at v_met_6 v_wrongHour v_wrongThing v_best v_kept_5 (-9 : Int32) v_bestSteps) H locs := hw
    try dsimp only at h
    refine g_cvv (rm := { frames := 8 + 8, cells := 0, slots := 0, locals := 671 + 100 * 8 }) (wn := (fun (u : IA × IA × Int32 × Int32) => (w_X11_findSoonest cy a_this a_s a_met a_best a_kept w_refusals w_image w_read w_tape w_told w_squares w_far w_queue u.1 v_isImage v_taped v_at v_met_6 v_wrongHour v_wrongThing u.2.1 v_kept_5 u.2.2.1 u.2.2.2))) (As := [.int r7]) ha hw hl.1 (c_X11_goesOn (cy := cy) 8) (cwV 1 ha.2.2.2.2.1 gX11_findSoonest_X11_goesOn rfl rfl rfl hq_X11_goesOn ⟨Nat.le_of_ble_eq_true rfl, Nat.le_of_ble_eq_true rfl⟩) [0, 1, 2, 3] [4] [1, 2, 3, 4, 0] rfl rfl rfl rfl (by decide) rfl (fun _ => rfl) rfl rfl h rfl rfl (Nat.le_of_ble_eq_true rfl) dX11_findSoonest_58 ⟨Nat.le_refl _, Nat.le_refl _⟩ (fun u H locs h hw => ?_)
    obtain ⟨v_s_8, v_best_9, v_soonest_10, v_bestSteps_11⟩ := u
    have hw : wd D A s.heap (w_X11_findSoonest cy a_this a_s a_met a_best a_kept w_refusals w_image w_read w_tape w_told w_squares w_far w_queue v_s_8 v_isImage v_taped v_at v_met_6 v_wrongHour v_wrongThing v_best_9 v_kept_5 v_soonest_10 v_bestSteps_11) H locs := hw
    try dsimp only at h
    refine lv_aload_n hx hb dX11_findSoonest_61 rfl (lv_at hl 0 rfl) ?_
    refine g_get (ci := 11) ha hw 0 1 rfl hi_X11_findSoonest_11 (by decide) (List.mem_of_getElem? (i := 1) rfl) rfl rfl dX11_findSoonest_62 ?_
    refine lv_iconst (v := (3 : Int32)) hx hb dX11_findSoonest_65 (by decide) ?_
    refine lv_iload_n hx hb dX11_findSoonest_66 rfl (lv_at hl 1 rfl) ?_
    refine g_ast (wn := (w_X11_findSoonest cy a_this a_s a_met a_best a_kept w_refusals w_image w_read w_tape w_told w_squares w_far w_queue (upd v_s_8 (3 : Int32).toNatClampNeg x1_1) v_isImage v_taped v_at v_met_6 v_wrongHour v_wrongThing v_best_9 v_kept_5 v_soonest_10 v_bestSteps_11)) ha hw 1 rfl (vp_in_iff.mpr (by decide)) rfl dX11_findSoonest_67 (fun H locs hw => ?_)
    refine lv_iconst (v := (0 : Int32)) hx hb dX11_findSoonest_68 (by decide) ?_
    refine lv_istore_n (lv' := [(2, .int (0 : Int32)), (0, .ref a_this), (1, .int x1_1)]) hx hb dX11_findSoonest_69 rfl hl (by decide) rfl (fun ls hl => ?_)
    obtain ⟨n9, h⟩ := h
    refine pl_X11_findSoonest_70 ha hr n9 _ _ _ _ _ h hw (lv_sub hl [1, 0] rfl)
theorem hq_X11_wrongSoonest : yX11_wrongSoonest.cls = RX11 ∧ yX11_wrongSoonest.cls ≠ "java/lang/invoke/MethodHandle" ∧ yX11_wrongSoonest.cls ≠ "java/lang/invoke/VarHandle" ∧ (parseMethodDescriptor yX11_wrongSoonest.desc).map (fun d => d.parameters.length) = some 0 := by decide +kernel
def w_X11_wrongSoonest (cy : ClassId) (a_this a_s : Nat) (w_refusals w_image w_read w_tape w_told w_met w_best w_kept w_squares w_far w_queue : Value) (v_s : IA) (v_isImage : Int32) (v_taped : Int32) (v_at : Int32) (v_wrongHour : Int32) (v_wrongThing : Int32) (v_soonest : Int32) (v_bestSteps : Int32) : va_W := [(a_this, .inr (11, [w_refusals, .ref a_s, w_image, w_read, .int v_isImage, w_tape, w_told, .int v_taped, .int v_at, w_met, .int v_wrongHour, .int v_wrongThing, w_best, w_kept, .int v_soonest, .int v_bestSteps, w_squares, w_far, w_queue])), (a_s, .inl (cy, 120, .inl v_s))]
theorem hi_X11_wrongSoonest_11 : ∀ w ∈ u_ws RX11 TX11 19, w ∈ wsX11_wrongSoonest := fun _ h => List.mem_cons_of_mem _ (List.mem_append_right _ h)
def wp_X11_wrongSoonest (v_s : IA) (K : Int32 → Prop) : Prop := ((v_s (0 : Int32).toNatClampNeg) = (1 : Int32) → K (-3 : Int32)) ∧ (¬ ((v_s (0 : Int32).toNatClampNeg) = (1 : Int32)) → wp_X11_coatsInAll v_s (fun (r2 : Int32) => (r2 ≤ (6 : Int32) → K (0 : Int32)) ∧ (¬ (r2 ≤ (6 : Int32)) → K (-6 : Int32))))
set_option maxHeartbeats 4000000 in
set_option maxRecDepth 100000 in
theorem c_X11_wrongSoonest {l : Launch} {D : va_G} {cy : ClassId} {a_this a_s : Nat} {w_refusals w_image w_read w_tape w_told w_met w_best w_kept w_squares w_far w_queue : Value} {v_s : IA} {v_isImage : Int32} {v_taped : Int32} {v_at : Int32} {v_wrongHour : Int32} {v_wrongThing : Int32} {v_soonest : Int32} {v_bestSteps : Int32} {K : Int32 → Prop} : CtI l yX11_wrongSoonest wsX11_wrongSoonest { frames := 2, cells := 0, slots := 0, locals := 150 } 0 0 D cy [.ref a_this] (w_X11_wrongSoonest cy a_this a_s w_refusals w_image w_read w_tape w_told w_met w_best w_kept w_squares w_far w_queue v_s v_isImage v_taped v_at v_wrongHour v_wrongThing v_soonest v_bestSteps) (wp_X11_wrongSoonest v_s K) (fun (u : Unit) => (w_X11_wrongSoonest cy a_this a_s w_refusals w_image w_read w_tape w_told w_met w_best w_kept w_squares w_far w_queue v_s v_isImage v_taped v_at v_wrongHour v_wrongThing v_soonest v_bestSteps)) (fun (r : Int32) (u : Unit) => K r) := by
  refine CtI.mk (cc := cX11_wrongSoonest) (nL := 1) (ty := .int) (by decide) rfl (Nat.le_of_ble_eq_true rfl) (fun r u h => rfl) ?_
  intro p e s m args below meth c A Q ha hr _ h ls hl hw
  have ha : am p s m args c cX11_wrongSoonest 1 RX11 wsX11_wrongSoonest D cy A := ha
  have hx := ha.1
  have hb := ha.2.1
  have hl : lv_has ls 1 [(0, .ref a_this)] := hl
  have h : ((v_s (0 : Int32).toNatClampNeg) = (1 : Int32) → K (-3 : Int32)) ∧ (¬ ((v_s (0 : Int32).toNatClampNeg) = (1 : Int32)) → wp_X11_coatsInAll v_s (fun (r2 : Int32) => (r2 ≤ (6 : Int32) → K (0 : Int32)) ∧ (¬ (r2 ≤ (6 : Int32)) → K (-6 : Int32)))) := h
  refine lv_aload_n hx hb dX11_wrongSoonest_0 rfl (lv_at hl 0 rfl) ?_
  refine g_get (ci := 11) ha hw 0 1 rfl hi_X11_wrongSoonest_11 (by decide) (List.mem_of_getElem? (i := 1) rfl) rfl rfl dX11_wrongSoonest_1 ?_
  refine lv_iconst (v := (0 : Int32)) hx hb dX11_wrongSoonest_4 (by decide) ?_
  refine g_ald ha hw 1 rfl (vp_in_iff.mpr (by decide)) dX11_wrongSoonest_5 ?_
  refine lv_iconst (v := (1 : Int32)) hx hb dX11_wrongSoonest_6 (by decide) ?_
  refine lv_icmp_ne (tgt := 15) hx hb dX11_wrongSoonest_7 (by decide) (fun c1 => ?_) (fun c1 => ?_)
  · have h := h.2 c1
    refine lv_aload_n hx hb dX11_wrongSoonest_15 rfl (lv_at hl 0 rfl) ?_
    refine g_cvi (rm := { frames := 1, cells := 0, slots := 0, locals := 64 }) (wn := (fun (u : Unit) => (w_X11_wrongSoonest cy a_this a_s w_refusals w_image w_read w_tape w_told w_met w_best w_kept w_squares w_far w_queue v_s v_isImage v_taped v_at v_wrongHour v_wrongThing v_soonest v_bestSteps))) (As := []) ha hw hl.1 (c_X11_coatsInAll (cy := cy)) (cwV 0 ha.2.2.2.2.1 gX11_wrongSoonest_X11_coatsInAll rfl rfl rfl hq_X11_coatsInAll ⟨Nat.le_of_ble_eq_true rfl, Nat.le_of_ble_eq_true rfl⟩) [0, 1] [] [0, 1] rfl rfl rfl rfl (by decide) rfl (fun _ => rfl) rfl rfl h rfl rfl (Nat.le_of_ble_eq_true rfl) dX11_wrongSoonest_16 ⟨Nat.le_refl _, Nat.le_refl _⟩ (fun r2 u H locs h hw => ?_)
    have hw : wd D A s.heap (w_X11_wrongSoonest cy a_this a_s w_refusals w_image w_read w_tape w_told w_met w_best w_kept w_squares w_far w_queue v_s v_isImage v_taped v_at v_wrongHour v_wrongThing v_soonest v_bestSteps) H locs := hw
    try dsimp only at h
    refine lv_bipush (v := (6 : Int32)) hx hb dX11_wrongSoonest_19 (by decide) ?_
    refine lv_icmp_le (tgt := 29) hx hb dX11_wrongSoonest_21 (by decide) (fun c3 => ?_) (fun c3 => ?_)
    · have h := h.1 c3
      refine lv_iconst (v := (0 : Int32)) hx hb dX11_wrongSoonest_29 (by decide) ?_
      exact hr _ _ () _ _ _ dX11_wrongSoonest_30 h hw
    · have h := h.2 c3
      refine lv_bipush (v := (-6 : Int32)) hx hb dX11_wrongSoonest_24 (by decide) ?_
      refine lv_goto (tgt := 30) hx hb dX11_wrongSoonest_26 (by decide) ?_
      exact hr _ _ () _ _ _ dX11_wrongSoonest_30 h hw
  · have h := h.1 c1
    refine lv_bipush (v := (-3 : Int32)) hx hb dX11_wrongSoonest_10 (by decide) ?_
    refine lv_goto (tgt := 30) hx hb dX11_wrongSoonest_12 (by decide) ?_
    exact hr _ _ () _ _ _ dX11_wrongSoonest_30 h hw
theorem hq_X11_soonest : yX11_soonest.cls = RX11 ∧ yX11_soonest.cls ≠ "java/lang/invoke/MethodHandle" ∧ yX11_soonest.cls ≠ "java/lang/invoke/VarHandle" ∧ (parseMethodDescriptor yX11_soonest.desc).map (fun d => d.parameters.length) = some 0 := by decide +kernel
def w_X11_soonest (cy : ClassId) (a_this a_refusals a_s a_met a_best a_kept : Nat) (w_image w_read w_tape w_told w_squares w_far w_queue : Value) (v_refusals : IA) (v_s : IA) (v_isImage : Int32) (v_taped : Int32) (v_at : Int32) (v_met : IA) (v_wrongHour : Int32) (v_wrongThing : Int32) (v_best : IA) (v_kept : IA) (v_soonest : Int32) (v_bestSteps : Int32) : va_W := [(a_this, .inr (11, [.ref a_refusals, .ref a_s, w_image, w_read, .int v_isImage, w_tape, w_told, .int v_taped, .int v_at, .ref a_met, .int v_wrongHour, .int v_wrongThing, .ref a_best, .ref a_kept, .int v_soonest, .int v_bestSteps, w_squares, w_far, w_queue])), (a_refusals, .inl (cy, 7, .inl v_refusals)), (a_s, .inl (cy, 120, .inl v_s)), (a_met, .inl (cy, 64, .inl v_met)), (a_best, .inl (cy, 16, .inl v_best)), (a_kept, .inl (cy, 16, .inl v_kept))]
theorem hi_X11_soonest_11 : ∀ w ∈ u_ws RX11 TX11 19, w ∈ wsX11_soonest := fun _ h => List.mem_cons_of_mem _ (List.mem_append_right _ h)
def wp_X11_soonest_41 (v_refusals : IA) (v_met : IA) (v_best : IA) (v_kept : IA) (v_soonest : Int32) (v_bestSteps : Int32) (K : Int32 → IA → IA → IA → IA → IA → Int32 → Int32 → Prop) : Nat → Int32 → IA → Prop
  | 0, _, _ => False
  | n + 1, x2, v_s => (((2 : Int32) * v_bestSteps) ≤ x2 → K v_soonest v_refusals v_s v_met v_best v_kept v_soonest v_bestSteps) ∧ (¬ (((2 : Int32) * v_bestSteps) ≤ x2) → vp_in x2 16 ∧ (vp_in ((77 : Int32) + x2) 120 ∧ (wp_X11_soonest_41 v_refusals v_met v_best v_kept v_soonest v_bestSteps K n (x2 + (1 : Int32)) (upd v_s ((77 : Int32) + x2).toNatClampNeg (v_best x2.toNatClampNeg)))))
set_option maxHeartbeats 4000000 in
set_option maxRecDepth 100000 in
theorem pl_X11_soonest_41 {p : Program} {l : Launch} {e : Env} {s : State} {m : MethodId} {args : Array Value} {below : List Frame} {meth : Method} {c : Code} {A : Nat → Prop} {Q : State → Prop} {D : va_G} {cy : ClassId} {a_this a_refusals a_s a_met a_best a_kept : Nat} {w_image w_read w_tape w_told w_squares w_far w_queue : Value} {v_refusals : IA} {v_isImage : Int32} {v_taped : Int32} {v_at : Int32} {v_met : IA} {v_wrongHour : Int32} {v_wrongThing : Int32} {v_best : IA} {v_kept : IA} {v_soonest : Int32} {v_bestSteps : Int32} {K : Int32 → IA → IA → IA → IA → IA → Int32 → Int32 → Prop} (ha : am p s m args c cX11_soonest 3 RX11 wsX11_soonest D cy A) (hr : rtI p l e { frames := 18, cells := 0, slots := 0, locals := 1644 } s m args below meth c 0 0 Q cX11_soonest D A (fun (u : IA × IA × IA × IA × IA × Int32 × Int32) => (w_X11_soonest cy a_this a_refusals a_s a_met a_best a_kept w_image w_read w_tape w_told w_squares w_far w_queue u.1 u.2.1 v_isImage v_taped v_at u.2.2.1 v_wrongHour v_wrongThing u.2.2.2.1 u.2.2.2.2.1 u.2.2.2.2.2.1 u.2.2.2.2.2.2)) (fun (r : Int32) (u : IA × IA × IA × IA × IA × Int32 × Int32) => K r u.1 u.2.1 u.2.2.1 u.2.2.2.1 u.2.2.2.2.1 u.2.2.2.2.2.1 u.2.2.2.2.2.2)) : ∀ (n : Nat) (x2 : Int32) (v_s : IA) (H : Heap) (locs : List Loc) (ls : Array Slot), wp_X11_soonest_41 v_refusals v_met v_best v_kept v_soonest v_bestSteps K n x2 v_s → wd D A s.heap (w_X11_soonest cy a_this a_refusals a_s a_met a_best a_kept w_image w_read w_tape w_told w_squares w_far w_queue v_refusals v_s v_isImage v_taped v_at v_met v_wrongHour v_wrongThing v_best v_kept v_soonest v_bestSteps) H locs → lv_has ls 3 [(0, .ref a_this), (2, .int x2)] → W p l e { frames := 18, cells := 0, slots := 0, locals := 1644 } s m args below meth c H locs 0 0 Q (F0 m 41 ls []) := by
  have hx := ha.1
  have hb := ha.2.1
  intro n
  induction n with
  | zero => exact fun _ _ _ _ _ h _ _ => False.elim h
  | succ n ih =>
    intro x2 v_s H locs ls h hw hl
    have h : (((2 : Int32) * v_bestSteps) ≤ x2 → K v_soonest v_refusals v_s v_met v_best v_kept v_soonest v_bestSteps) ∧ (¬ (((2 : Int32) * v_bestSteps) ≤ x2) → vp_in x2 16 ∧ (vp_in ((77 : Int32) + x2) 120 ∧ (wp_X11_soonest_41 v_refusals v_met v_best v_kept v_soonest v_bestSteps K n (x2 + (1 : Int32)) (upd v_s ((77 : Int32) + x2).toNatClampNeg (v_best x2.toNatClampNeg))))) := h
    refine lv_iload_n hx hb dX11_soonest_41 rfl (lv_at hl 1 rfl) ?_
    refine lv_iconst (v := (2 : Int32)) hx hb dX11_soonest_42 (by decide) ?_
    refine lv_aload_n hx hb dX11_soonest_43 rfl (lv_at hl 0 rfl) ?_
    refine g_get (ci := 11) ha hw 0 15 rfl hi_X11_soonest_11 (by decide) (List.mem_of_getElem? (i := 3) rfl) rfl rfl dX11_soonest_44 ?_
    refine lv_imul hx hb dX11_soonest_47 ?_
    refine lv_icmp_ge (tgt := 72) hx hb dX11_soonest_48 (by decide) (fun c10 => ?_) (fun c10 => ?_)
    · have h := h.1 c10
      refine lv_aload_n hx hb dX11_soonest_72 rfl (lv_at hl 0 rfl) ?_
      refine g_get (ci := 11) ha hw 0 14 rfl hi_X11_soonest_11 (by decide) (List.mem_of_getElem? (i := 1) rfl) rfl rfl dX11_soonest_73 ?_
      exact hr _ _ (v_refusals, v_s, v_met, v_best, v_kept, v_soonest, v_bestSteps) _ _ _ dX11_soonest_76 h hw
    · have h := h.2 c10
      refine lv_aload_n hx hb dX11_soonest_51 rfl (lv_at hl 0 rfl) ?_
      refine g_get (ci := 11) ha hw 0 1 rfl hi_X11_soonest_11 (by decide) (List.mem_of_getElem? (i := 2) rfl) rfl rfl dX11_soonest_52 ?_
      refine lv_bipush (v := (77 : Int32)) hx hb dX11_soonest_55 (by decide) ?_
      refine lv_iload_n hx hb dX11_soonest_57 rfl (lv_at hl 1 rfl) ?_
      refine lv_iadd hx hb dX11_soonest_58 ?_
      refine lv_aload_n hx hb dX11_soonest_59 rfl (lv_at hl 0 rfl) ?_
      refine g_get (ci := 11) ha hw 0 12 rfl hi_X11_soonest_11 (by decide) (List.mem_of_getElem? (i := 4) rfl) rfl rfl dX11_soonest_60 ?_
      refine lv_iload_n hx hb dX11_soonest_63 rfl (lv_at hl 1 rfl) ?_
      obtain ⟨z11, h⟩ := h
      refine g_ald ha hw 4 rfl z11 dX11_soonest_64 ?_
      obtain ⟨z12, h⟩ := h
      refine g_ast (wn := (w_X11_soonest cy a_this a_refusals a_s a_met a_best a_kept w_image w_read w_tape w_told w_squares w_far w_queue v_refusals (upd v_s ((77 : Int32) + x2).toNatClampNeg (v_best x2.toNatClampNeg)) v_isImage v_taped v_at v_met v_wrongHour v_wrongThing v_best v_kept v_soonest v_bestSteps)) ha hw 2 rfl z12 rfl dX11_soonest_65 (fun H locs hw => ?_)
      refine lv_iinc (v := x2 + (1 : Int32)) (lv' := [(2, .int (x2 + (1 : Int32))), (0, .ref a_this)]) hx hb dX11_soonest_66 hl (k := 1) rfl rfl (by decide) rfl (fun ls hl => ?_)
      refine lv_goto (tgt := 41) hx hb dX11_soonest_69 (by decide) ?_
      exact ih _ _ _ _ _ h hw (lv_sub hl [1, 0] rfl)
def wp_X11_soonest (v_refusals : IA) (v_s : IA) (v_met : IA) (v_best : IA) (v_kept : IA) (v_soonest : Int32) (v_bestSteps : Int32) (K : Int32 → IA → IA → IA → IA → IA → Int32 → Int32 → Prop) : Prop := wp_X11_wrongSoonest v_s (fun (r1 : Int32) => (r1 = 0 → wp_X11_findSoonest v_s v_met v_best v_kept v_soonest v_bestSteps (fun (v_s_3 : IA) (v_met_4 : IA) (v_best_5 : IA) (v_kept_6 : IA) (v_soonest_7 : Int32) (v_bestSteps_8 : Int32) => (0 ≤ v_soonest_7 → ∃ n13 : Nat, wp_X11_soonest_41 v_refusals v_met_4 v_best_5 v_kept_6 v_soonest_7 v_bestSteps_8 K n13 (0 : Int32) (upd v_s_3 (3 : Int32).toNatClampNeg v_bestSteps_8)) ∧ (¬ (0 ≤ v_soonest_7) → K (-9 : Int32) v_refusals v_s_3 v_met_4 v_best_5 v_kept_6 v_soonest_7 v_bestSteps_8))) ∧ (¬ (r1 = 0) → wp_X11_refuse r1 v_refusals (fun (r14 : Int32) (v_refusals_15 : IA) => K r14 v_refusals_15 v_s v_met v_best v_kept v_soonest v_bestSteps)))
set_option maxHeartbeats 4000000 in
set_option maxRecDepth 100000 in
theorem c_X11_soonest {l : Launch} {D : va_G} {cy : ClassId} {a_this a_refusals a_s a_met a_best a_kept : Nat} {w_image w_read w_tape w_told w_squares w_far w_queue : Value} {v_refusals : IA} {v_s : IA} {v_isImage : Int32} {v_taped : Int32} {v_at : Int32} {v_met : IA} {v_wrongHour : Int32} {v_wrongThing : Int32} {v_best : IA} {v_kept : IA} {v_soonest : Int32} {v_bestSteps : Int32} {K : Int32 → IA → IA → IA → IA → IA → Int32 → Int32 → Prop} : CtI l yX11_soonest wsX11_soonest { frames := 18, cells := 0, slots := 0, locals := 1644 } 0 0 D cy [.ref a_this] (w_X11_soonest cy a_this a_refusals a_s a_met a_best a_kept w_image w_read w_tape w_told w_squares w_far w_queue v_refusals v_s v_isImage v_taped v_at v_met v_wrongHour v_wrongThing v_best v_kept v_soonest v_bestSteps) (wp_X11_soonest v_refusals v_s v_met v_best v_kept v_soonest v_bestSteps K) (fun (u : IA × IA × IA × IA × IA × Int32 × Int32) => (w_X11_soonest cy a_this a_refusals a_s a_met a_best a_kept w_image w_read w_tape w_told w_squares w_far w_queue u.1 u.2.1 v_isImage v_taped v_at u.2.2.1 v_wrongHour v_wrongThing u.2.2.2.1 u.2.2.2.2.1 u.2.2.2.2.2.1 u.2.2.2.2.2.2)) (fun (r : Int32) (u : IA × IA × IA × IA × IA × Int32 × Int32) => K r u.1 u.2.1 u.2.2.1 u.2.2.2.1 u.2.2.2.2.1 u.2.2.2.2.2.1 u.2.2.2.2.2.2) := by
  refine CtI.mk (cc := cX11_soonest) (nL := 3) (ty := .int) (by decide) rfl (Nat.le_of_ble_eq_true rfl) (fun r u h => rfl) ?_
  intro p e s m args below meth c A Q ha hr _ h ls hl hw
  have ha : am p s m args c cX11_soonest 3 RX11 wsX11_soonest D cy A := ha
  have hx := ha.1
  have hb := ha.2.1
  have hl : lv_has ls 3 [(0, .ref a_this)] := hl
  have h : wp_X11_wrongSoonest v_s (fun (r1 : Int32) => (r1 = 0 → wp_X11_findSoonest v_s v_met v_best v_kept v_soonest v_bestSteps (fun (v_s_3 : IA) (v_met_4 : IA) (v_best_5 : IA) (v_kept_6 : IA) (v_soonest_7 : Int32) (v_bestSteps_8 : Int32) => (0 ≤ v_soonest_7 → ∃ n13 : Nat, wp_X11_soonest_41 v_refusals v_met_4 v_best_5 v_kept_6 v_soonest_7 v_bestSteps_8 K n13 (0 : Int32) (upd v_s_3 (3 : Int32).toNatClampNeg v_bestSteps_8)) ∧ (¬ (0 ≤ v_soonest_7) → K (-9 : Int32) v_refusals v_s_3 v_met_4 v_best_5 v_kept_6 v_soonest_7 v_bestSteps_8))) ∧ (¬ (r1 = 0) → wp_X11_refuse r1 v_refusals (fun (r14 : Int32) (v_refusals_15 : IA) => K r14 v_refusals_15 v_s v_met v_best v_kept v_soonest v_bestSteps))) := h
  refine lv_aload_n hx hb dX11_soonest_0 rfl (lv_at hl 0 rfl) ?_
  refine g_cvi (rm := { frames := 2, cells := 0, slots := 0, locals := 150 }) (wn := (fun (u : Unit) => (w_X11_soonest cy a_this a_refusals a_s a_met a_best a_kept w_image w_read w_tape w_told w_squares w_far w_queue v_refusals v_s v_isImage v_taped v_at v_met v_wrongHour v_wrongThing v_best v_kept v_soonest v_bestSteps))) (As := []) ha hw hl.1 (c_X11_wrongSoonest (cy := cy)) (cwV 0 ha.2.2.2.2.1 gX11_soonest_X11_wrongSoonest rfl rfl rfl hq_X11_wrongSoonest ⟨Nat.le_of_ble_eq_true rfl, Nat.le_of_ble_eq_true rfl⟩) [0, 2] [1, 3, 4, 5] [4, 0, 5, 1, 2, 3] rfl rfl rfl rfl (by decide) rfl (fun _ => rfl) rfl rfl h rfl rfl (Nat.le_of_ble_eq_true rfl) dX11_soonest_1 ⟨Nat.le_refl _, Nat.le_refl _⟩ (fun r1 u H locs h hw => ?_)
  have hw : wd D A s.heap (w_X11_soonest cy a_this a_refusals a_s a_met a_best a_kept w_image w_read w_tape w_told w_squares w_far w_queue v_refusals v_s v_isImage v_taped v_at v_met v_wrongHour v_wrongThing v_best v_kept v_soonest v_bestSteps) H locs := hw
  try dsimp only at h
  refine lv_istore_n (lv' := [(1, .int r1), (0, .ref a_this)]) hx hb dX11_soonest_4 rfl hl (by decide) rfl (fun ls hl => ?_)
  refine lv_iload_n hx hb dX11_soonest_5 rfl (lv_at hl 0 rfl) ?_
  refine lv_if_eq (tgt := 15) hx hb dX11_soonest_6 (by decide) (fun c2 => ?_) (fun c2 => ?_)
  · have h := h.1 c2
    refine lv_aload_n hx hb dX11_soonest_15 rfl (lv_at hl 1 rfl) ?_
    refine g_cvv (rm := { frames := 17, cells := 0, slots := 0, locals := 1558 }) (wn := (fun (u : IA × IA × IA × IA × Int32 × Int32) => (w_X11_soonest cy a_this a_refusals a_s a_met a_best a_kept w_image w_read w_tape w_told w_squares w_far w_queue v_refusals u.1 v_isImage v_taped v_at u.2.1 v_wrongHour v_wrongThing u.2.2.1 u.2.2.2.1 u.2.2.2.2.1 u.2.2.2.2.2))) (As := []) ha hw hl.1 (c_X11_findSoonest (cy := cy)) (cwV 0 ha.2.2.2.2.1 gX11_soonest_X11_findSoonest rfl rfl rfl hq_X11_findSoonest ⟨Nat.le_of_ble_eq_true rfl, Nat.le_of_ble_eq_true rfl⟩) [0, 2, 3, 4, 5] [1] [1, 0, 2, 3, 4, 5] rfl rfl rfl rfl (by decide) rfl (fun _ => rfl) rfl rfl h rfl rfl (Nat.le_of_ble_eq_true rfl) dX11_soonest_16 ⟨Nat.le_refl _, Nat.le_refl _⟩ (fun u H locs h hw => ?_)
    obtain ⟨v_s_3, v_met_4, v_best_5, v_kept_6, v_soonest_7, v_bestSteps_8⟩ := u
    have hw : wd D A s.heap (w_X11_soonest cy a_this a_refusals a_s a_met a_best a_kept w_image w_read w_tape w_told w_squares w_far w_queue v_refusals v_s_3 v_isImage v_taped v_at v_met_4 v_wrongHour v_wrongThing v_best_5 v_kept_6 v_soonest_7 v_bestSteps_8) H locs := hw
    try dsimp only at h
    refine lv_aload_n hx hb dX11_soonest_19 rfl (lv_at hl 1 rfl) ?_
    refine g_get (ci := 11) ha hw 0 14 rfl hi_X11_soonest_11 (by decide) (List.mem_of_getElem? (i := 1) rfl) rfl rfl dX11_soonest_20 ?_
    refine lv_if_ge (tgt := 29) hx hb dX11_soonest_23 (by decide) (fun c9 => ?_) (fun c9 => ?_)
    · have h := h.1 c9
      refine lv_aload_n hx hb dX11_soonest_29 rfl (lv_at hl 1 rfl) ?_
      refine g_get (ci := 11) ha hw 0 1 rfl hi_X11_soonest_11 (by decide) (List.mem_of_getElem? (i := 2) rfl) rfl rfl dX11_soonest_30 ?_
      refine lv_iconst (v := (3 : Int32)) hx hb dX11_soonest_33 (by decide) ?_
      refine lv_aload_n hx hb dX11_soonest_34 rfl (lv_at hl 1 rfl) ?_
      refine g_get (ci := 11) ha hw 0 15 rfl hi_X11_soonest_11 (by decide) (List.mem_of_getElem? (i := 3) rfl) rfl rfl dX11_soonest_35 ?_
      refine g_ast (wn := (w_X11_soonest cy a_this a_refusals a_s a_met a_best a_kept w_image w_read w_tape w_told w_squares w_far w_queue v_refusals (upd v_s_3 (3 : Int32).toNatClampNeg v_bestSteps_8) v_isImage v_taped v_at v_met_4 v_wrongHour v_wrongThing v_best_5 v_kept_6 v_soonest_7 v_bestSteps_8)) ha hw 2 rfl (vp_in_iff.mpr (by decide)) rfl dX11_soonest_38 (fun H locs hw => ?_)
      refine lv_iconst (v := (0 : Int32)) hx hb dX11_soonest_39 (by decide) ?_
      refine lv_istore_n (lv' := [(2, .int (0 : Int32)), (1, .int r1), (0, .ref a_this)]) hx hb dX11_soonest_40 rfl hl (by decide) rfl (fun ls hl => ?_)
      obtain ⟨n9, h⟩ := h
      refine pl_X11_soonest_41 ha hr n9 _ _ _ _ _ h hw (lv_sub hl [2, 0] rfl)
    · have h := h.2 c9
      refine lv_bipush (v := (-9 : Int32)) hx hb dX11_soonest_26 (by decide) ?_
      exact hr _ _ (v_refusals, v_s_3, v_met_4, v_best_5, v_kept_6, v_soonest_7, v_bestSteps_8) _ _ _ dX11_soonest_28 h hw
  · have h := h.2 c2
    refine lv_aload_n hx hb dX11_soonest_9 rfl (lv_at hl 1 rfl) ?_
    refine lv_iload_n hx hb dX11_soonest_10 rfl (lv_at hl 0 rfl) ?_
    refine g_cvi (rm := { frames := 1, cells := 0, slots := 0, locals := 64 }) (wn := (fun (u : IA) => (w_X11_soonest cy a_this a_refusals a_s a_met a_best a_kept w_image w_read w_tape w_told w_squares w_far w_queue u v_s v_isImage v_taped v_at v_met v_wrongHour v_wrongThing v_best v_kept v_soonest v_bestSteps))) (As := [.int r1]) ha hw hl.1 (c_X11_refuse (cy := cy)) (cwV 1 ha.2.2.2.2.1 gX11_soonest_X11_refuse rfl rfl rfl hq_X11_refuse ⟨Nat.le_of_ble_eq_true rfl, Nat.le_of_ble_eq_true rfl⟩) [0, 1] [2, 3, 4, 5] [4, 5, 0, 1, 2, 3] rfl rfl rfl rfl (by decide) rfl (fun _ => rfl) rfl rfl h rfl rfl (Nat.le_of_ble_eq_true rfl) dX11_soonest_11 ⟨Nat.le_refl _, Nat.le_refl _⟩ (fun r14 u H locs h hw => ?_)
    obtain ⟨v_refusals_15, rfl⟩ : ∃ z, z = u := ⟨_, rfl⟩
    have hw : wd D A s.heap (w_X11_soonest cy a_this a_refusals a_s a_met a_best a_kept w_image w_read w_tape w_told w_squares w_far w_queue v_refusals_15 v_s v_isImage v_taped v_at v_met v_wrongHour v_wrongThing v_best v_kept v_soonest v_bestSteps) H locs := hw
    try dsimp only at h
    exact hr _ _ (v_refusals_15, v_s, v_met, v_best, v_kept, v_soonest, v_bestSteps) _ _ _ dX11_soonest_14 h hw
theorem hq_X11_bits : yX11_bits.cls ≠ "java/lang/invoke/MethodHandle" ∧ yX11_bits.cls ≠ "java/lang/invoke/VarHandle" ∧ (parseMethodDescriptor yX11_bits.desc).map (fun d => d.parameters.length) = some 1 := by decide +kernel
def w_X11_bits (cy : ClassId) : va_W := []
def wp_X11_bits_4 (K : Int32 → Prop) : Nat → Int32 → Int32 → Prop
  | 0, _, _ => False
  | n + 1, x1, x2 => (x2 ≤ 0 → K x1) ∧ (¬ (x2 ≤ 0) → ∀ x1_2 : Int32, x1_2 = x1 + (x2 &&& (1 : Int32)) → ∀ x2_3 : Int32, x2_3 = x2 >>> ((1 : Int32) &&& 31) → wp_X11_bits_4 K n x1_2 x2_3)
set_option maxHeartbeats 4000000 in
set_option maxRecDepth 100000 in
theorem pl_X11_bits_4 {p : Program} {l : Launch} {e : Env} {s : State} {m : MethodId} {args : Array Value} {below : List Frame} {meth : Method} {c : Code} {A : Nat → Prop} {Q : State → Prop} {D : va_G} {cy : ClassId} {K : Int32 → Prop} (ha : am p s m args c cX11_bits 3 RX11 wsX11_bits D cy A) (hr : rtI p l e { frames := 1, cells := 0, slots := 0, locals := 64 } s m args below meth c 0 0 Q cX11_bits D A (fun (u : Unit) => (w_X11_bits cy)) (fun (r : Int32) (u : Unit) => K r)) : ∀ (n : Nat) (x1 : Int32) (x2 : Int32) (H : Heap) (locs : List Loc) (ls : Array Slot), wp_X11_bits_4 K n x1 x2 → wd D A s.heap (w_X11_bits cy) H locs → lv_has ls 3 [(1, .int x1), (2, .int x2)] → W p l e { frames := 1, cells := 0, slots := 0, locals := 64 } s m args below meth c H locs 0 0 Q (F0 m 4 ls []) := by
  have hx := ha.1
  have hb := ha.2.1
  intro n
  induction n with
  | zero => exact fun _ _ _ _ _ h _ _ => False.elim h
  | succ n ih =>
    intro x1 x2 H locs ls h hw hl
    have h : (x2 ≤ 0 → K x1) ∧ (¬ (x2 ≤ 0) → ∀ x1_2 : Int32, x1_2 = x1 + (x2 &&& (1 : Int32)) → ∀ x2_3 : Int32, x2_3 = x2 >>> ((1 : Int32) &&& 31) → wp_X11_bits_4 K n x1_2 x2_3) := h
    refine lv_iload_n hx hb dX11_bits_4 rfl (lv_at hl 1 rfl) ?_
    refine lv_if_le (tgt := 21) hx hb dX11_bits_5 (by decide) (fun c1 => ?_) (fun c1 => ?_)
    · have h := h.1 c1
      refine lv_iload_n hx hb dX11_bits_21 rfl (lv_at hl 0 rfl) ?_
      exact hr _ _ () _ _ _ dX11_bits_22 h hw
    · have h := h.2 c1
      refine lv_iload_n hx hb dX11_bits_8 rfl (lv_at hl 0 rfl) ?_
      refine lv_iload_n hx hb dX11_bits_9 rfl (lv_at hl 1 rfl) ?_
      refine lv_iconst (v := (1 : Int32)) hx hb dX11_bits_10 (by decide) ?_
      refine lv_iand hx hb dX11_bits_11 ?_
      refine lv_iadd hx hb dX11_bits_12 ?_
      refine lv_topi (fun x1_2 ex1_2 => ?_)
      have h := h x1_2 ex1_2
      refine lv_istore_n (lv' := [(1, .int x1_2), (2, .int x2)]) hx hb dX11_bits_13 rfl hl (by decide) rfl (fun ls hl => ?_)
      refine lv_iload_n hx hb dX11_bits_14 rfl (lv_at hl 1 rfl) ?_
      refine lv_iconst (v := (1 : Int32)) hx hb dX11_bits_15 (by decide) ?_
      refine lv_ishr hx hb dX11_bits_16 ?_
      refine lv_topi (fun x2_3 ex2_3 => ?_)
      have h := h x2_3 ex2_3
      refine lv_istore_n (lv' := [(2, .int x2_3), (1, .int x1_2)]) hx hb dX11_bits_17 rfl hl (by decide) rfl (fun ls hl => ?_)
      refine lv_goto (tgt := 4) hx hb dX11_bits_18 (by decide) ?_
      exact ih _ _ _ _ _ h hw (lv_sub hl [1, 0] rfl)
def wp_X11_bits (x0 : Int32) (K : Int32 → Prop) : Prop := ∃ n4 : Nat, wp_X11_bits_4 K n4 (0 : Int32) x0
set_option maxHeartbeats 4000000 in
set_option maxRecDepth 100000 in
theorem c_X11_bits {l : Launch} {D : va_G} {cy : ClassId} {x0 : Int32} {K : Int32 → Prop} : CtI l yX11_bits wsX11_bits { frames := 1, cells := 0, slots := 0, locals := 64 } 0 0 D cy [.int x0] (w_X11_bits cy) (wp_X11_bits x0 K) (fun (u : Unit) => (w_X11_bits cy)) (fun (r : Int32) (u : Unit) => K r) := by
  refine CtI.mk (cc := cX11_bits) (nL := 3) (ty := .int) (by decide) rfl (Nat.le_of_ble_eq_true rfl) (fun r u h => rfl) ?_
  intro p e s m args below meth c A Q ha hr _ h ls hl hw
  have ha : am p s m args c cX11_bits 3 RX11 wsX11_bits D cy A := ha
  have hx := ha.1
  have hb := ha.2.1
  have hl : lv_has ls 3 [(0, .int x0)] := hl
  have h : ∃ n4 : Nat, wp_X11_bits_4 K n4 (0 : Int32) x0 := h
  refine lv_iconst (v := (0 : Int32)) hx hb dX11_bits_0 (by decide) ?_
  refine lv_istore_n (lv' := [(1, .int (0 : Int32)), (0, .int x0)]) hx hb dX11_bits_1 rfl hl (by decide) rfl (fun ls hl => ?_)
  refine lv_iload_n hx hb dX11_bits_2 rfl (lv_at hl 1 rfl) ?_
  refine lv_istore_n (lv' := [(2, .int x0), (1, .int (0 : Int32)), (0, .int x0)]) hx hb dX11_bits_3 rfl hl (by decide) rfl (fun ls hl => ?_)
  obtain ⟨n9, h⟩ := h
  refine pl_X11_bits_4 ha hr n9 _ _ _ _ _ h hw (lv_sub hl [1, 0] rfl)
theorem hq_X11_fewest : yX11_fewest.cls = RX11 ∧ yX11_fewest.cls ≠ "java/lang/invoke/MethodHandle" ∧ yX11_fewest.cls ≠ "java/lang/invoke/VarHandle" ∧ (parseMethodDescriptor yX11_fewest.desc).map (fun d => d.parameters.length) = some 1 := by decide +kernel
def w_X11_fewest (cy : ClassId) (a_this a_refusals a_s a_met a_best a_kept : Nat) (w_image w_read w_tape w_told w_squares w_far w_queue : Value) (v_refusals : IA) (v_s : IA) (v_isImage : Int32) (v_taped : Int32) (v_at : Int32) (v_met : IA) (v_wrongHour : Int32) (v_wrongThing : Int32) (v_best : IA) (v_kept : IA) (v_soonest : Int32) (v_bestSteps : Int32) : va_W := [(a_this, .inr (11, [.ref a_refusals, .ref a_s, w_image, w_read, .int v_isImage, w_tape, w_told, .int v_taped, .int v_at, .ref a_met, .int v_wrongHour, .int v_wrongThing, .ref a_best, .ref a_kept, .int v_soonest, .int v_bestSteps, w_squares, w_far, w_queue])), (a_refusals, .inl (cy, 7, .inl v_refusals)), (a_s, .inl (cy, 120, .inl v_s)), (a_met, .inl (cy, 64, .inl v_met)), (a_best, .inl (cy, 16, .inl v_best)), (a_kept, .inl (cy, 16, .inl v_kept))]
theorem hi_X11_fewest_11 : ∀ w ∈ u_ws RX11 TX11 19, w ∈ wsX11_fewest := fun _ h => List.mem_cons_of_mem _ (List.mem_append_right _ h)
def wp_X11_fewest_72 (x1 : Int32) (E57 : Int32 → Int32 → IA → IA → IA → IA → Int32 → Int32 → Prop) (K : Int32 → IA → IA → IA → IA → IA → Int32 → Int32 → Prop) : Nat → Int32 → Int32 → Int32 → IA → IA → IA → IA → Int32 → Int32 → Prop
  | 0, _, _, _, _, _, _, _, _, _ => False
  | n + 1, x4, x5, x6, v_s, v_met, v_best, v_kept, v_soonest, v_bestSteps => ((64 : Int32) ≤ x6 → E57 x4 (x5 + (1 : Int32)) v_s v_met v_best v_kept v_soonest v_bestSteps) ∧ (¬ ((64 : Int32) ≤ x6) → (0 ≤ x4 → E57 x4 (x5 + (1 : Int32)) v_s v_met v_best v_kept v_soonest v_bestSteps) ∧ (¬ (0 ≤ x4) → wp_X11_bits x6 (fun (r10 : Int32) => (r10 = x5 → wp_X11_allRooms v_s (fun (r12 : Int32) => ((x6 &&& (r12 ^^^ (-1 : Int32))) = 0 → wp_X11_findSoonest (upd v_s (8 : Int32).toNatClampNeg x6) v_met v_best v_kept v_soonest v_bestSteps (fun (v_s_14 : IA) (v_met_15 : IA) (v_best_16 : IA) (v_kept_17 : IA) (v_soonest_18 : Int32) (v_bestSteps_19 : Int32) => (v_soonest_18 < 0 → wp_X11_fewest_72 x1 E57 K n (-9 : Int32) x5 (x6 + (2 : Int32)) v_s_14 v_met_15 v_best_16 v_kept_17 v_soonest_18 v_bestSteps_19) ∧ (¬ (v_soonest_18 < 0) → (x1 < v_soonest_18 → wp_X11_fewest_72 x1 E57 K n (-9 : Int32) x5 (x6 + (2 : Int32)) v_s_14 v_met_15 v_best_16 v_kept_17 v_soonest_18 v_bestSteps_19) ∧ (¬ (x1 < v_soonest_18) → wp_X11_fewest_72 x1 E57 K n x6 x5 (x6 + (2 : Int32)) v_s_14 v_met_15 v_best_16 v_kept_17 v_soonest_18 v_bestSteps_19)))) ∧ (¬ ((x6 &&& (r12 ^^^ (-1 : Int32))) = 0) → wp_X11_fewest_72 x1 E57 K n x4 x5 (x6 + (2 : Int32)) v_s v_met v_best v_kept v_soonest v_bestSteps))) ∧ (¬ (r10 = x5) → wp_X11_fewest_72 x1 E57 K n x4 x5 (x6 + (2 : Int32)) v_s v_met v_best v_kept v_soonest v_bestSteps))))
set_option maxHeartbeats 4000000 in
set_option maxRecDepth 100000 in
theorem pl_X11_fewest_72 {p : Program} {l : Launch} {e : Env} {s : State} {m : MethodId} {args : Array Value} {below : List Frame} {meth : Method} {c : Code} {A : Nat → Prop} {Q : State → Prop} {D : va_G} {cy : ClassId} {a_this a_refusals a_s a_met a_best a_kept : Nat} {w_image w_read w_tape w_told w_squares w_far w_queue : Value} {v_refusals : IA} {v_isImage : Int32} {v_taped : Int32} {v_at : Int32} {v_wrongHour : Int32} {v_wrongThing : Int32} {x1 : Int32} {x3 : Int32} {K : Int32 → IA → IA → IA → IA → IA → Int32 → Int32 → Prop} {E57 : Int32 → Int32 → IA → IA → IA → IA → Int32 → Int32 → Prop} (ha : am p s m args c cX11_fewest 7 RX11 wsX11_fewest D cy A) (hr : rtI p l e { frames := 18, cells := 0, slots := 0, locals := 1644 } s m args below meth c 0 0 Q cX11_fewest D A (fun (u : IA × IA × IA × IA × IA × Int32 × Int32) => (w_X11_fewest cy a_this a_refusals a_s a_met a_best a_kept w_image w_read w_tape w_told w_squares w_far w_queue u.1 u.2.1 v_isImage v_taped v_at u.2.2.1 v_wrongHour v_wrongThing u.2.2.2.1 u.2.2.2.2.1 u.2.2.2.2.2.1 u.2.2.2.2.2.2)) (fun (r : Int32) (u : IA × IA × IA × IA × IA × Int32 × Int32) => K r u.1 u.2.1 u.2.2.1 u.2.2.2.1 u.2.2.2.2.1 u.2.2.2.2.2.1 u.2.2.2.2.2.2)) (hE57 : ∀ (x4' : Int32) (x5' : Int32) (v_s' : IA) (v_met' : IA) (v_best' : IA) (v_kept' : IA) (v_soonest' : Int32) (v_bestSteps' : Int32) (H : Heap) (locs : List Loc) (ls : Array Slot), E57 x4' x5' v_s' v_met' v_best' v_kept' v_soonest' v_bestSteps' → wd D A s.heap (w_X11_fewest cy a_this a_refusals a_s a_met a_best a_kept w_image w_read w_tape w_told w_squares w_far w_queue v_refusals v_s' v_isImage v_taped v_at v_met' v_wrongHour v_wrongThing v_best' v_kept' v_soonest' v_bestSteps') H locs → lv_has ls 7 [(0, .ref a_this), (1, .int x1), (3, .int x3), (4, .int x4'), (5, .int x5')] → W p l e { frames := 18, cells := 0, slots := 0, locals := 1644 } s m args below meth c H locs 0 0 Q (F0 m 57 ls [])) : ∀ (n : Nat) (x4 : Int32) (x5 : Int32) (x6 : Int32) (v_s : IA) (v_met : IA) (v_best : IA) (v_kept : IA) (v_soonest : Int32) (v_bestSteps : Int32) (H : Heap) (locs : List Loc) (ls : Array Slot), wp_X11_fewest_72 x1 E57 K n x4 x5 x6 v_s v_met v_best v_kept v_soonest v_bestSteps → wd D A s.heap (w_X11_fewest cy a_this a_refusals a_s a_met a_best a_kept w_image w_read w_tape w_told w_squares w_far w_queue v_refusals v_s v_isImage v_taped v_at v_met v_wrongHour v_wrongThing v_best v_kept v_soonest v_bestSteps) H locs → lv_has ls 7 [(0, .ref a_this), (1, .int x1), (3, .int x3), (4, .int x4), (5, .int x5), (6, .int x6)] → W p l e { frames := 18, cells := 0, slots := 0, locals := 1644 } s m args below meth c H locs 0 0 Q (F0 m 72 ls []) := by
  have hx := ha.1
  have hb := ha.2.1
  intro n
  induction n with
  | zero => exact fun _ _ _ _ _ _ _ _ _ _ _ _ h _ _ => False.elim h
  | succ n ih =>
    intro x4 x5 x6 v_s v_met v_best v_kept v_soonest v_bestSteps H locs ls h hw hl
    have h : ((64 : Int32) ≤ x6 → E57 x4 (x5 + (1 : Int32)) v_s v_met v_best v_kept v_soonest v_bestSteps) ∧ (¬ ((64 : Int32) ≤ x6) → (0 ≤ x4 → E57 x4 (x5 + (1 : Int32)) v_s v_met v_best v_kept v_soonest v_bestSteps) ∧ (¬ (0 ≤ x4) → wp_X11_bits x6 (fun (r10 : Int32) => (r10 = x5 → wp_X11_allRooms v_s (fun (r12 : Int32) => ((x6 &&& (r12 ^^^ (-1 : Int32))) = 0 → wp_X11_findSoonest (upd v_s (8 : Int32).toNatClampNeg x6) v_met v_best v_kept v_soonest v_bestSteps (fun (v_s_14 : IA) (v_met_15 : IA) (v_best_16 : IA) (v_kept_17 : IA) (v_soonest_18 : Int32) (v_bestSteps_19 : Int32) => (v_soonest_18 < 0 → wp_X11_fewest_72 x1 E57 K n (-9 : Int32) x5 (x6 + (2 : Int32)) v_s_14 v_met_15 v_best_16 v_kept_17 v_soonest_18 v_bestSteps_19) ∧ (¬ (v_soonest_18 < 0) → (x1 < v_soonest_18 → wp_X11_fewest_72 x1 E57 K n (-9 : Int32) x5 (x6 + (2 : Int32)) v_s_14 v_met_15 v_best_16 v_kept_17 v_soonest_18 v_bestSteps_19) ∧ (¬ (x1 < v_soonest_18) → wp_X11_fewest_72 x1 E57 K n x6 x5 (x6 + (2 : Int32)) v_s_14 v_met_15 v_best_16 v_kept_17 v_soonest_18 v_bestSteps_19)))) ∧ (¬ ((x6 &&& (r12 ^^^ (-1 : Int32))) = 0) → wp_X11_fewest_72 x1 E57 K n x4 x5 (x6 + (2 : Int32)) v_s v_met v_best v_kept v_soonest v_bestSteps))) ∧ (¬ (r10 = x5) → wp_X11_fewest_72 x1 E57 K n x4 x5 (x6 + (2 : Int32)) v_s v_met v_best v_kept v_soonest v_bestSteps)))) := h
    refine lv_iload hx hb dX11_fewest_72 (lv_at hl 5 rfl) ?_
    refine lv_bipush (v := (64 : Int32)) hx hb dX11_fewest_74 (by decide) ?_
    refine lv_icmp_ge (tgt := 152) hx hb dX11_fewest_76 (by decide) (fun c8 => ?_) (fun c8 => ?_)
    · have h := h.1 c8
      refine lv_iinc (v := x5 + (1 : Int32)) (lv' := [(5, .int (x5 + (1 : Int32))), (0, .ref a_this), (1, .int x1), (3, .int x3), (4, .int x4), (6, .int x6)]) hx hb dX11_fewest_152 hl (k := 4) rfl rfl (by decide) rfl (fun ls hl => ?_)
      refine lv_goto (tgt := 57) hx hb dX11_fewest_155 (by decide) ?_
      exact hE57 _ _ _ _ _ _ _ _ _ _ _ h hw (lv_sub hl [1, 2, 3, 4, 0] rfl)
    · have h := h.2 c8
      refine lv_iload hx hb dX11_fewest_79 (lv_at hl 3 rfl) ?_
      refine lv_if_ge (tgt := 152) hx hb dX11_fewest_81 (by decide) (fun c9 => ?_) (fun c9 => ?_)
      · have h := h.1 c9
        refine lv_iinc (v := x5 + (1 : Int32)) (lv' := [(5, .int (x5 + (1 : Int32))), (0, .ref a_this), (1, .int x1), (3, .int x3), (4, .int x4), (6, .int x6)]) hx hb dX11_fewest_152 hl (k := 4) rfl rfl (by decide) rfl (fun ls hl => ?_)
        refine lv_goto (tgt := 57) hx hb dX11_fewest_155 (by decide) ?_
        exact hE57 _ _ _ _ _ _ _ _ _ _ _ h hw (lv_sub hl [1, 2, 3, 4, 0] rfl)
      · have h := h.2 c9
        refine lv_iload hx hb dX11_fewest_84 (lv_at hl 5 rfl) ?_
        refine g_csi (rm := { frames := 1, cells := 0, slots := 0, locals := 64 }) (wn := (fun (u : Unit) => (w_X11_fewest cy a_this a_refusals a_s a_met a_best a_kept w_image w_read w_tape w_told w_squares w_far w_queue v_refusals v_s v_isImage v_taped v_at v_met v_wrongHour v_wrongThing v_best v_kept v_soonest v_bestSteps))) (As := [.int x6]) ha hw hl.1 (c_X11_bits (cy := cy)) (va_cwS 1 ha.2.2.2.2.1 gX11_fewest_X11_bits rfl rfl rfl hq_X11_bits ⟨Nat.le_of_ble_eq_true rfl, Nat.le_of_ble_eq_true rfl⟩) [] [0, 1, 2, 3, 4, 5] [0, 1, 2, 3, 4, 5] rfl rfl rfl rfl (by decide) rfl (fun _ => rfl) h rfl rfl (Nat.le_of_ble_eq_true rfl) dX11_fewest_86 ⟨Nat.le_refl _, Nat.le_refl _⟩ (fun r10 u H locs h hw => ?_)
        have hw : wd D A s.heap (w_X11_fewest cy a_this a_refusals a_s a_met a_best a_kept w_image w_read w_tape w_told w_squares w_far w_queue v_refusals v_s v_isImage v_taped v_at v_met v_wrongHour v_wrongThing v_best v_kept v_soonest v_bestSteps) H locs := hw
        try dsimp only at h
        refine lv_iload hx hb dX11_fewest_89 (lv_at hl 4 rfl) ?_
        refine lv_icmp_ne (tgt := 146) hx hb dX11_fewest_91 (by decide) (fun c11 => ?_) (fun c11 => ?_)
        · have h := h.2 c11
          refine lv_iinc (v := x6 + (2 : Int32)) (lv' := [(6, .int (x6 + (2 : Int32))), (0, .ref a_this), (1, .int x1), (3, .int x3), (4, .int x4), (5, .int x5)]) hx hb dX11_fewest_146 hl (k := 5) rfl rfl (by decide) rfl (fun ls hl => ?_)
          refine lv_goto (tgt := 72) hx hb dX11_fewest_149 (by decide) ?_
          exact ih _ _ _ _ _ _ _ _ _ _ _ _ h hw (lv_sub hl [1, 2, 3, 4, 5, 0] rfl)
        · have h := h.1 c11
          refine lv_iload hx hb dX11_fewest_94 (lv_at hl 5 rfl) ?_
          refine lv_aload_n hx hb dX11_fewest_96 rfl (lv_at hl 0 rfl) ?_
          refine g_cvi (rm := { frames := 1, cells := 0, slots := 0, locals := 64 }) (wn := (fun (u : Unit) => (w_X11_fewest cy a_this a_refusals a_s a_met a_best a_kept w_image w_read w_tape w_told w_squares w_far w_queue v_refusals v_s v_isImage v_taped v_at v_met v_wrongHour v_wrongThing v_best v_kept v_soonest v_bestSteps))) (As := []) ha hw hl.1 (c_X11_allRooms (cy := cy)) (cwV 0 ha.2.2.2.2.1 gX11_fewest_X11_allRooms rfl rfl rfl hq_X11_allRooms ⟨Nat.le_of_ble_eq_true rfl, Nat.le_of_ble_eq_true rfl⟩) [0, 2] [1, 3, 4, 5] [4, 0, 5, 1, 2, 3] rfl rfl rfl rfl (by decide) rfl (fun _ => rfl) rfl rfl h rfl rfl (Nat.le_of_ble_eq_true rfl) dX11_fewest_97 ⟨Nat.le_refl _, Nat.le_refl _⟩ (fun r12 u H locs h hw => ?_)
          have hw : wd D A s.heap (w_X11_fewest cy a_this a_refusals a_s a_met a_best a_kept w_image w_read w_tape w_told w_squares w_far w_queue v_refusals v_s v_isImage v_taped v_at v_met v_wrongHour v_wrongThing v_best v_kept v_soonest v_bestSteps) H locs := hw
          try dsimp only at h
          refine lv_iconst (v := (-1 : Int32)) hx hb dX11_fewest_100 (by decide) ?_
          refine lv_ixor hx hb dX11_fewest_101 ?_
          refine lv_iand hx hb dX11_fewest_102 ?_
          refine lv_if_eq (tgt := 109) hx hb dX11_fewest_103 (by decide) (fun c13 => ?_) (fun c13 => ?_)
          · have h := h.1 c13
            refine lv_aload_n hx hb dX11_fewest_109 rfl (lv_at hl 0 rfl) ?_
            refine g_get (ci := 11) ha hw 0 1 rfl hi_X11_fewest_11 (by decide) (List.mem_of_getElem? (i := 1) rfl) rfl rfl dX11_fewest_110 ?_
            refine lv_bipush (v := (8 : Int32)) hx hb dX11_fewest_113 (by decide) ?_
            refine lv_iload hx hb dX11_fewest_115 (lv_at hl 5 rfl) ?_
            refine g_ast (wn := (w_X11_fewest cy a_this a_refusals a_s a_met a_best a_kept w_image w_read w_tape w_told w_squares w_far w_queue v_refusals (upd v_s (8 : Int32).toNatClampNeg x6) v_isImage v_taped v_at v_met v_wrongHour v_wrongThing v_best v_kept v_soonest v_bestSteps)) ha hw 2 rfl (vp_in_iff.mpr (by decide)) rfl dX11_fewest_117 (fun H locs hw => ?_)
            refine lv_aload_n hx hb dX11_fewest_118 rfl (lv_at hl 0 rfl) ?_
            refine g_cvv (rm := { frames := 17, cells := 0, slots := 0, locals := 1558 }) (wn := (fun (u : IA × IA × IA × IA × Int32 × Int32) => (w_X11_fewest cy a_this a_refusals a_s a_met a_best a_kept w_image w_read w_tape w_told w_squares w_far w_queue v_refusals u.1 v_isImage v_taped v_at u.2.1 v_wrongHour v_wrongThing u.2.2.1 u.2.2.2.1 u.2.2.2.2.1 u.2.2.2.2.2))) (As := []) ha hw hl.1 (c_X11_findSoonest (cy := cy)) (cwV 0 ha.2.2.2.2.1 gX11_fewest_X11_findSoonest rfl rfl rfl hq_X11_findSoonest ⟨Nat.le_of_ble_eq_true rfl, Nat.le_of_ble_eq_true rfl⟩) [0, 2, 3, 4, 5] [1] [1, 0, 2, 3, 4, 5] rfl rfl rfl rfl (by decide) rfl (fun _ => rfl) rfl rfl h rfl rfl (Nat.le_of_ble_eq_true rfl) dX11_fewest_119 ⟨Nat.le_refl _, Nat.le_refl _⟩ (fun u H locs h hw => ?_)
            obtain ⟨v_s_14, v_met_15, v_best_16, v_kept_17, v_soonest_18, v_bestSteps_19⟩ := u
            have hw : wd D A s.heap (w_X11_fewest cy a_this a_refusals a_s a_met a_best a_kept w_image w_read w_tape w_told w_squares w_far w_queue v_refusals v_s_14 v_isImage v_taped v_at v_met_15 v_wrongHour v_wrongThing v_best_16 v_kept_17 v_soonest_18 v_bestSteps_19) H locs := hw
            try dsimp only at h
            refine lv_aload_n hx hb dX11_fewest_122 rfl (lv_at hl 0 rfl) ?_
            refine g_get (ci := 11) ha hw 0 14 rfl hi_X11_fewest_11 (by decide) (List.mem_of_getElem? (i := 2) rfl) rfl rfl dX11_fewest_123 ?_
            refine lv_if_lt (tgt := 142) hx hb dX11_fewest_126 (by decide) (fun c20 => ?_) (fun c20 => ?_)
            · have h := h.1 c20
              refine lv_bipush (v := (-9 : Int32)) hx hb dX11_fewest_142 (by decide) ?_
              refine lv_istore (lv' := [(4, .int (-9 : Int32)), (0, .ref a_this), (1, .int x1), (3, .int x3), (5, .int x5), (6, .int x6)]) hx hb dX11_fewest_144 hl (by decide) rfl (fun ls hl => ?_)
              refine lv_iinc (v := x6 + (2 : Int32)) (lv' := [(6, .int (x6 + (2 : Int32))), (4, .int (-9 : Int32)), (0, .ref a_this), (1, .int x1), (3, .int x3), (5, .int x5)]) hx hb dX11_fewest_146 hl (k := 5) rfl rfl (by decide) rfl (fun ls hl => ?_)
              refine lv_goto (tgt := 72) hx hb dX11_fewest_149 (by decide) ?_
              exact ih _ _ _ _ _ _ _ _ _ _ _ _ h hw (lv_sub hl [2, 3, 4, 1, 5, 0] rfl)
            · have h := h.2 c20
              refine lv_aload_n hx hb dX11_fewest_129 rfl (lv_at hl 0 rfl) ?_
              refine g_get (ci := 11) ha hw 0 14 rfl hi_X11_fewest_11 (by decide) (List.mem_of_getElem? (i := 2) rfl) rfl rfl dX11_fewest_130 ?_
              refine lv_iload_n hx hb dX11_fewest_133 rfl (lv_at hl 1 rfl) ?_
              refine lv_icmp_gt (tgt := 142) hx hb dX11_fewest_134 (by decide) (fun c21 => ?_) (fun c21 => ?_)
              · have h := h.1 c21
                refine lv_bipush (v := (-9 : Int32)) hx hb dX11_fewest_142 (by decide) ?_
                refine lv_istore (lv' := [(4, .int (-9 : Int32)), (0, .ref a_this), (1, .int x1), (3, .int x3), (5, .int x5), (6, .int x6)]) hx hb dX11_fewest_144 hl (by decide) rfl (fun ls hl => ?_)
                refine lv_iinc (v := x6 + (2 : Int32)) (lv' := [(6, .int (x6 + (2 : Int32))), (4, .int (-9 : Int32)), (0, .ref a_this), (1, .int x1), (3, .int x3), (5, .int x5)]) hx hb dX11_fewest_146 hl (k := 5) rfl rfl (by decide) rfl (fun ls hl => ?_)
                refine lv_goto (tgt := 72) hx hb dX11_fewest_149 (by decide) ?_
                exact ih _ _ _ _ _ _ _ _ _ _ _ _ h hw (lv_sub hl [2, 3, 4, 1, 5, 0] rfl)
              · have h := h.2 c21
                refine lv_iload hx hb dX11_fewest_137 (lv_at hl 5 rfl) ?_
                refine lv_goto (tgt := 144) hx hb dX11_fewest_139 (by decide) ?_
                refine lv_istore (lv' := [(4, .int x6), (0, .ref a_this), (1, .int x1), (3, .int x3), (5, .int x5), (6, .int x6)]) hx hb dX11_fewest_144 hl (by decide) rfl (fun ls hl => ?_)
                refine lv_iinc (v := x6 + (2 : Int32)) (lv' := [(6, .int (x6 + (2 : Int32))), (4, .int x6), (0, .ref a_this), (1, .int x1), (3, .int x3), (5, .int x5)]) hx hb dX11_fewest_146 hl (k := 5) rfl rfl (by decide) rfl (fun ls hl => ?_)
                refine lv_goto (tgt := 72) hx hb dX11_fewest_149 (by decide) ?_
                exact ih _ _ _ _ _ _ _ _ _ _ _ _ h hw (lv_sub hl [2, 3, 4, 1, 5, 0] rfl)
          · have h := h.2 c13
            refine lv_goto (tgt := 146) hx hb dX11_fewest_106 (by decide) ?_
            refine lv_iinc (v := x6 + (2 : Int32)) (lv' := [(6, .int (x6 + (2 : Int32))), (0, .ref a_this), (1, .int x1), (3, .int x3), (4, .int x4), (5, .int x5)]) hx hb dX11_fewest_146 hl (k := 5) rfl rfl (by decide) rfl (fun ls hl => ?_)
            refine lv_goto (tgt := 72) hx hb dX11_fewest_149 (by decide) ?_
            exact ih _ _ _ _ _ _ _ _ _ _ _ _ h hw (lv_sub hl [1, 2, 3, 4, 5, 0] rfl)
def wp_X11_fewest_57 (x1 : Int32) (x3 : Int32) (v_refusals : IA) (K : Int32 → IA → IA → IA → IA → IA → Int32 → Int32 → Prop) : Nat → Int32 → Int32 → IA → IA → IA → IA → Int32 → Int32 → Prop
  | 0, _, _, _, _, _, _, _, _ => False
  | n + 1, x4, x5, v_s, v_met, v_best, v_kept, v_soonest, v_bestSteps => ((6 : Int32) ≤ x5 → K x4 v_refusals (upd v_s (8 : Int32).toNatClampNeg x3) v_met v_best v_kept v_soonest v_bestSteps) ∧ (¬ ((6 : Int32) ≤ x5) → (0 ≤ x4 → K x4 v_refusals (upd v_s (8 : Int32).toNatClampNeg x3) v_met v_best v_kept v_soonest v_bestSteps) ∧ (¬ (0 ≤ x4) → ∃ n30 : Nat, wp_X11_fewest_72 x1 (fun (x4_22 : Int32) (x5_23 : Int32) (v_s_24 : IA) (v_met_25 : IA) (v_best_26 : IA) (v_kept_27 : IA) (v_soonest_28 : Int32) (v_bestSteps_29 : Int32) => wp_X11_fewest_57 x1 x3 v_refusals K n x4_22 x5_23 v_s_24 v_met_25 v_best_26 v_kept_27 v_soonest_28 v_bestSteps_29) K n30 x4 x5 (0 : Int32) v_s v_met v_best v_kept v_soonest v_bestSteps))
set_option maxHeartbeats 4000000 in
set_option maxRecDepth 100000 in
theorem pl_X11_fewest_57 {p : Program} {l : Launch} {e : Env} {s : State} {m : MethodId} {args : Array Value} {below : List Frame} {meth : Method} {c : Code} {A : Nat → Prop} {Q : State → Prop} {D : va_G} {cy : ClassId} {a_this a_refusals a_s a_met a_best a_kept : Nat} {w_image w_read w_tape w_told w_squares w_far w_queue : Value} {v_refusals : IA} {v_isImage : Int32} {v_taped : Int32} {v_at : Int32} {v_wrongHour : Int32} {v_wrongThing : Int32} {x1 : Int32} {x3 : Int32} {K : Int32 → IA → IA → IA → IA → IA → Int32 → Int32 → Prop} (ha : am p s m args c cX11_fewest 7 RX11 wsX11_fewest D cy A) (hr : rtI p l e { frames := 18, cells := 0, slots := 0, locals := 1644 } s m args below meth c 0 0 Q cX11_fewest D A (fun (u : IA × IA × IA × IA × IA × Int32 × Int32) => (w_X11_fewest cy a_this a_refusals a_s a_met a_best a_kept w_image w_read w_tape w_told w_squares w_far w_queue u.1 u.2.1 v_isImage v_taped v_at u.2.2.1 v_wrongHour v_wrongThing u.2.2.2.1 u.2.2.2.2.1 u.2.2.2.2.2.1 u.2.2.2.2.2.2)) (fun (r : Int32) (u : IA × IA × IA × IA × IA × Int32 × Int32) => K r u.1 u.2.1 u.2.2.1 u.2.2.2.1 u.2.2.2.2.1 u.2.2.2.2.2.1 u.2.2.2.2.2.2)) : ∀ (n : Nat) (x4 : Int32) (x5 : Int32) (v_s : IA) (v_met : IA) (v_best : IA) (v_kept : IA) (v_soonest : Int32) (v_bestSteps : Int32) (H : Heap) (locs : List Loc) (ls : Array Slot), wp_X11_fewest_57 x1 x3 v_refusals K n x4 x5 v_s v_met v_best v_kept v_soonest v_bestSteps → wd D A s.heap (w_X11_fewest cy a_this a_refusals a_s a_met a_best a_kept w_image w_read w_tape w_told w_squares w_far w_queue v_refusals v_s v_isImage v_taped v_at v_met v_wrongHour v_wrongThing v_best v_kept v_soonest v_bestSteps) H locs → lv_has ls 7 [(0, .ref a_this), (1, .int x1), (3, .int x3), (4, .int x4), (5, .int x5)] → W p l e { frames := 18, cells := 0, slots := 0, locals := 1644 } s m args below meth c H locs 0 0 Q (F0 m 57 ls []) := by
  have hx := ha.1
  have hb := ha.2.1
  intro n
  induction n with
  | zero => exact fun _ _ _ _ _ _ _ _ _ _ _ h _ _ => False.elim h
  | succ n ih =>
    intro x4 x5 v_s v_met v_best v_kept v_soonest v_bestSteps H locs ls h hw hl
    have h : ((6 : Int32) ≤ x5 → K x4 v_refusals (upd v_s (8 : Int32).toNatClampNeg x3) v_met v_best v_kept v_soonest v_bestSteps) ∧ (¬ ((6 : Int32) ≤ x5) → (0 ≤ x4 → K x4 v_refusals (upd v_s (8 : Int32).toNatClampNeg x3) v_met v_best v_kept v_soonest v_bestSteps) ∧ (¬ (0 ≤ x4) → ∃ n30 : Nat, wp_X11_fewest_72 x1 (fun (x4_22 : Int32) (x5_23 : Int32) (v_s_24 : IA) (v_met_25 : IA) (v_best_26 : IA) (v_kept_27 : IA) (v_soonest_28 : Int32) (v_bestSteps_29 : Int32) => wp_X11_fewest_57 x1 x3 v_refusals K n x4_22 x5_23 v_s_24 v_met_25 v_best_26 v_kept_27 v_soonest_28 v_bestSteps_29) K n30 x4 x5 (0 : Int32) v_s v_met v_best v_kept v_soonest v_bestSteps)) := h
    refine lv_iload hx hb dX11_fewest_57 (lv_at hl 4 rfl) ?_
    refine lv_bipush (v := (6 : Int32)) hx hb dX11_fewest_59 (by decide) ?_
    refine lv_icmp_ge (tgt := 158) hx hb dX11_fewest_61 (by decide) (fun c6 => ?_) (fun c6 => ?_)
    · have h := h.1 c6
      refine lv_aload_n hx hb dX11_fewest_158 rfl (lv_at hl 0 rfl) ?_
      refine g_get (ci := 11) ha hw 0 1 rfl hi_X11_fewest_11 (by decide) (List.mem_of_getElem? (i := 1) rfl) rfl rfl dX11_fewest_159 ?_
      refine lv_bipush (v := (8 : Int32)) hx hb dX11_fewest_162 (by decide) ?_
      refine lv_iload_n hx hb dX11_fewest_164 rfl (lv_at hl 2 rfl) ?_
      refine g_ast (wn := (w_X11_fewest cy a_this a_refusals a_s a_met a_best a_kept w_image w_read w_tape w_told w_squares w_far w_queue v_refusals (upd v_s (8 : Int32).toNatClampNeg x3) v_isImage v_taped v_at v_met v_wrongHour v_wrongThing v_best v_kept v_soonest v_bestSteps)) ha hw 2 rfl (vp_in_iff.mpr (by decide)) rfl dX11_fewest_165 (fun H locs hw => ?_)
      refine lv_iload hx hb dX11_fewest_166 (lv_at hl 3 rfl) ?_
      exact hr _ _ (v_refusals, upd v_s (8 : Int32).toNatClampNeg x3, v_met, v_best, v_kept, v_soonest, v_bestSteps) _ _ _ dX11_fewest_168 h hw
    · have h := h.2 c6
      refine lv_iload hx hb dX11_fewest_64 (lv_at hl 3 rfl) ?_
      refine lv_if_ge (tgt := 158) hx hb dX11_fewest_66 (by decide) (fun c7 => ?_) (fun c7 => ?_)
      · have h := h.1 c7
        refine lv_aload_n hx hb dX11_fewest_158 rfl (lv_at hl 0 rfl) ?_
        refine g_get (ci := 11) ha hw 0 1 rfl hi_X11_fewest_11 (by decide) (List.mem_of_getElem? (i := 1) rfl) rfl rfl dX11_fewest_159 ?_
        refine lv_bipush (v := (8 : Int32)) hx hb dX11_fewest_162 (by decide) ?_
        refine lv_iload_n hx hb dX11_fewest_164 rfl (lv_at hl 2 rfl) ?_
        refine g_ast (wn := (w_X11_fewest cy a_this a_refusals a_s a_met a_best a_kept w_image w_read w_tape w_told w_squares w_far w_queue v_refusals (upd v_s (8 : Int32).toNatClampNeg x3) v_isImage v_taped v_at v_met v_wrongHour v_wrongThing v_best v_kept v_soonest v_bestSteps)) ha hw 2 rfl (vp_in_iff.mpr (by decide)) rfl dX11_fewest_165 (fun H locs hw => ?_)
        refine lv_iload hx hb dX11_fewest_166 (lv_at hl 3 rfl) ?_
        exact hr _ _ (v_refusals, upd v_s (8 : Int32).toNatClampNeg x3, v_met, v_best, v_kept, v_soonest, v_bestSteps) _ _ _ dX11_fewest_168 h hw
      · have h := h.2 c7
        refine lv_iconst (v := (0 : Int32)) hx hb dX11_fewest_69 (by decide) ?_
        refine lv_istore (lv' := [(6, .int (0 : Int32)), (0, .ref a_this), (1, .int x1), (3, .int x3), (4, .int x4), (5, .int x5)]) hx hb dX11_fewest_70 hl (by decide) rfl (fun ls hl => ?_)
        obtain ⟨n9, h⟩ := h
        refine pl_X11_fewest_72 ha hr ?_ n9 _ _ _ _ _ _ _ _ _ _ _ _ h hw (lv_sub hl [1, 2, 3, 4, 5, 0] rfl)
        · intro x4_22 x5_23 v_s_24 v_met_25 v_best_26 v_kept_27 v_soonest_28 v_bestSteps_29 H locs ls h hw hl
          try dsimp only at h
          exact ih _ _ _ _ _ _ _ _ _ _ _ h hw (lv_sub hl [0, 1, 2, 3, 4] rfl)
def wp_X11_fewest_32 (x1 : Int32) (x2 : Int32) (K : Int32 → IA → IA → IA → IA → IA → Int32 → Int32 → Prop) (v_refusals : IA) (v_s : IA) (v_met : IA) (v_best : IA) (v_kept : IA) (v_soonest : Int32) (v_bestSteps : Int32) : Prop := (x2 = 0 → ∀ x3_5 : Int32, x3_5 = v_s (8 : Int32).toNatClampNeg → ∃ n31 : Nat, wp_X11_fewest_57 x1 x3_5 v_refusals K n31 (-9 : Int32) (0 : Int32) v_s v_met v_best v_kept v_soonest v_bestSteps) ∧ (¬ (x2 = 0) → wp_X11_refuse x2 v_refusals (fun (r32 : Int32) (v_refusals_33 : IA) => K r32 v_refusals_33 v_s v_met v_best v_kept v_soonest v_bestSteps))
set_option maxHeartbeats 4000000 in
set_option maxRecDepth 100000 in
theorem pl_X11_fewest_32 {p : Program} {l : Launch} {e : Env} {s : State} {m : MethodId} {args : Array Value} {below : List Frame} {meth : Method} {c : Code} {A : Nat → Prop} {Q : State → Prop} {D : va_G} {cy : ClassId} {a_this a_refusals a_s a_met a_best a_kept : Nat} {w_image w_read w_tape w_told w_squares w_far w_queue : Value} {v_isImage : Int32} {v_taped : Int32} {v_at : Int32} {v_wrongHour : Int32} {v_wrongThing : Int32} {x1 : Int32} {x2 : Int32} {K : Int32 → IA → IA → IA → IA → IA → Int32 → Int32 → Prop} (ha : am p s m args c cX11_fewest 7 RX11 wsX11_fewest D cy A) (hr : rtI p l e { frames := 18, cells := 0, slots := 0, locals := 1644 } s m args below meth c 0 0 Q cX11_fewest D A (fun (u : IA × IA × IA × IA × IA × Int32 × Int32) => (w_X11_fewest cy a_this a_refusals a_s a_met a_best a_kept w_image w_read w_tape w_told w_squares w_far w_queue u.1 u.2.1 v_isImage v_taped v_at u.2.2.1 v_wrongHour v_wrongThing u.2.2.2.1 u.2.2.2.2.1 u.2.2.2.2.2.1 u.2.2.2.2.2.2)) (fun (r : Int32) (u : IA × IA × IA × IA × IA × Int32 × Int32) => K r u.1 u.2.1 u.2.2.1 u.2.2.2.1 u.2.2.2.2.1 u.2.2.2.2.2.1 u.2.2.2.2.2.2)) {v_refusals : IA} {v_s : IA} {v_met : IA} {v_best : IA} {v_kept : IA} {v_soonest : Int32} {v_bestSteps : Int32} {H : Heap} {locs : List Loc} {ls : Array Slot} : wp_X11_fewest_32 x1 x2 K v_refusals v_s v_met v_best v_kept v_soonest v_bestSteps → wd D A s.heap (w_X11_fewest cy a_this a_refusals a_s a_met a_best a_kept w_image w_read w_tape w_told w_squares w_far w_queue v_refusals v_s v_isImage v_taped v_at v_met v_wrongHour v_wrongThing v_best v_kept v_soonest v_bestSteps) H locs → lv_has ls 7 [(0, .ref a_this), (1, .int x1), (2, .int x2)] → W p l e { frames := 18, cells := 0, slots := 0, locals := 1644 } s m args below meth c H locs 0 0 Q (F0 m 32 ls []) := by
  have hx := ha.1
  have hb := ha.2.1
  intro h hw hl
  have h : (x2 = 0 → ∀ x3_5 : Int32, x3_5 = v_s (8 : Int32).toNatClampNeg → ∃ n31 : Nat, wp_X11_fewest_57 x1 x3_5 v_refusals K n31 (-9 : Int32) (0 : Int32) v_s v_met v_best v_kept v_soonest v_bestSteps) ∧ (¬ (x2 = 0) → wp_X11_refuse x2 v_refusals (fun (r32 : Int32) (v_refusals_33 : IA) => K r32 v_refusals_33 v_s v_met v_best v_kept v_soonest v_bestSteps)) := h
  refine lv_iload_n hx hb dX11_fewest_32 rfl (lv_at hl 2 rfl) ?_
  refine lv_if_eq (tgt := 42) hx hb dX11_fewest_33 (by decide) (fun c4 => ?_) (fun c4 => ?_)
  · have h := h.1 c4
    refine lv_aload_n hx hb dX11_fewest_42 rfl (lv_at hl 0 rfl) ?_
    refine g_get (ci := 11) ha hw 0 1 rfl hi_X11_fewest_11 (by decide) (List.mem_of_getElem? (i := 1) rfl) rfl rfl dX11_fewest_43 ?_
    refine lv_bipush (v := (8 : Int32)) hx hb dX11_fewest_46 (by decide) ?_
    refine g_ald ha hw 2 rfl (vp_in_iff.mpr (by decide)) dX11_fewest_48 ?_
    refine lv_topi (fun x3_5 ex3_5 => ?_)
    have h := h x3_5 ex3_5
    refine lv_istore_n (lv' := [(3, .int x3_5), (0, .ref a_this), (1, .int x1), (2, .int x2)]) hx hb dX11_fewest_49 rfl hl (by decide) rfl (fun ls hl => ?_)
    refine lv_bipush (v := (-9 : Int32)) hx hb dX11_fewest_50 (by decide) ?_
    refine lv_istore (lv' := [(4, .int (-9 : Int32)), (3, .int x3_5), (0, .ref a_this), (1, .int x1), (2, .int x2)]) hx hb dX11_fewest_52 hl (by decide) rfl (fun ls hl => ?_)
    refine lv_iconst (v := (0 : Int32)) hx hb dX11_fewest_54 (by decide) ?_
    refine lv_istore (lv' := [(5, .int (0 : Int32)), (4, .int (-9 : Int32)), (3, .int x3_5), (0, .ref a_this), (1, .int x1), (2, .int x2)]) hx hb dX11_fewest_55 hl (by decide) rfl (fun ls hl => ?_)
    obtain ⟨n9, h⟩ := h
    refine pl_X11_fewest_57 ha hr n9 _ _ _ _ _ _ _ _ _ _ _ h hw (lv_sub hl [3, 4, 2, 1, 0] rfl)
  · have h := h.2 c4
    refine lv_aload_n hx hb dX11_fewest_36 rfl (lv_at hl 0 rfl) ?_
    refine lv_iload_n hx hb dX11_fewest_37 rfl (lv_at hl 2 rfl) ?_
    refine g_cvi (rm := { frames := 1, cells := 0, slots := 0, locals := 64 }) (wn := (fun (u : IA) => (w_X11_fewest cy a_this a_refusals a_s a_met a_best a_kept w_image w_read w_tape w_told w_squares w_far w_queue u v_s v_isImage v_taped v_at v_met v_wrongHour v_wrongThing v_best v_kept v_soonest v_bestSteps))) (As := [.int x2]) ha hw hl.1 (c_X11_refuse (cy := cy)) (cwV 1 ha.2.2.2.2.1 gX11_fewest_X11_refuse rfl rfl rfl hq_X11_refuse ⟨Nat.le_of_ble_eq_true rfl, Nat.le_of_ble_eq_true rfl⟩) [0, 1] [2, 3, 4, 5] [4, 5, 0, 1, 2, 3] rfl rfl rfl rfl (by decide) rfl (fun _ => rfl) rfl rfl h rfl rfl (Nat.le_of_ble_eq_true rfl) dX11_fewest_38 ⟨Nat.le_refl _, Nat.le_refl _⟩ (fun r32 u H locs h hw => ?_)
    obtain ⟨v_refusals_33, rfl⟩ : ∃ z, z = u := ⟨_, rfl⟩
    have hw : wd D A s.heap (w_X11_fewest cy a_this a_refusals a_s a_met a_best a_kept w_image w_read w_tape w_told w_squares w_far w_queue v_refusals_33 v_s v_isImage v_taped v_at v_met v_wrongHour v_wrongThing v_best v_kept v_soonest v_bestSteps) H locs := hw
    try dsimp only at h
    exact hr _ _ (v_refusals_33, v_s, v_met, v_best, v_kept, v_soonest, v_bestSteps) _ _ _ dX11_fewest_41 h hw
def wp_X11_fewest_22 (x1 : Int32) (K : Int32 → IA → IA → IA → IA → IA → Int32 → Int32 → Prop) (v_refusals : IA) (v_s : IA) (v_met : IA) (v_best : IA) (v_kept : IA) (v_soonest : Int32) (v_bestSteps : Int32) (t0 : Int32) : Prop := (t0 = 0 → wp_X11_wrongSoonest v_s (fun (r34 : Int32) => wp_X11_fewest_32 x1 r34 K v_refusals v_s v_met v_best v_kept v_soonest v_bestSteps)) ∧ (¬ (t0 = 0) → wp_X11_fewest_32 x1 t0 K v_refusals v_s v_met v_best v_kept v_soonest v_bestSteps)
set_option maxHeartbeats 4000000 in
set_option maxRecDepth 100000 in
theorem pl_X11_fewest_22 {p : Program} {l : Launch} {e : Env} {s : State} {m : MethodId} {args : Array Value} {below : List Frame} {meth : Method} {c : Code} {A : Nat → Prop} {Q : State → Prop} {D : va_G} {cy : ClassId} {a_this a_refusals a_s a_met a_best a_kept : Nat} {w_image w_read w_tape w_told w_squares w_far w_queue : Value} {v_isImage : Int32} {v_taped : Int32} {v_at : Int32} {v_wrongHour : Int32} {v_wrongThing : Int32} {x1 : Int32} {K : Int32 → IA → IA → IA → IA → IA → Int32 → Int32 → Prop} (ha : am p s m args c cX11_fewest 7 RX11 wsX11_fewest D cy A) (hr : rtI p l e { frames := 18, cells := 0, slots := 0, locals := 1644 } s m args below meth c 0 0 Q cX11_fewest D A (fun (u : IA × IA × IA × IA × IA × Int32 × Int32) => (w_X11_fewest cy a_this a_refusals a_s a_met a_best a_kept w_image w_read w_tape w_told w_squares w_far w_queue u.1 u.2.1 v_isImage v_taped v_at u.2.2.1 v_wrongHour v_wrongThing u.2.2.2.1 u.2.2.2.2.1 u.2.2.2.2.2.1 u.2.2.2.2.2.2)) (fun (r : Int32) (u : IA × IA × IA × IA × IA × Int32 × Int32) => K r u.1 u.2.1 u.2.2.1 u.2.2.2.1 u.2.2.2.2.1 u.2.2.2.2.2.1 u.2.2.2.2.2.2)) {v_refusals : IA} {v_s : IA} {v_met : IA} {v_best : IA} {v_kept : IA} {v_soonest : Int32} {v_bestSteps : Int32} {t0 : Int32} {H : Heap} {locs : List Loc} {ls : Array Slot} : wp_X11_fewest_22 x1 K v_refusals v_s v_met v_best v_kept v_soonest v_bestSteps t0 → wd D A s.heap (w_X11_fewest cy a_this a_refusals a_s a_met a_best a_kept w_image w_read w_tape w_told w_squares w_far w_queue v_refusals v_s v_isImage v_taped v_at v_met v_wrongHour v_wrongThing v_best v_kept v_soonest v_bestSteps) H locs → lv_has ls 7 [(0, .ref a_this), (1, .int x1)] → W p l e { frames := 18, cells := 0, slots := 0, locals := 1644 } s m args below meth c H locs 0 0 Q (F0 m 22 ls [.int t0]) := by
  have hx := ha.1
  have hb := ha.2.1
  intro h hw hl
  have h : (t0 = 0 → wp_X11_wrongSoonest v_s (fun (r34 : Int32) => wp_X11_fewest_32 x1 r34 K v_refusals v_s v_met v_best v_kept v_soonest v_bestSteps)) ∧ (¬ (t0 = 0) → wp_X11_fewest_32 x1 t0 K v_refusals v_s v_met v_best v_kept v_soonest v_bestSteps) := h
  refine lv_istore_n (lv' := [(2, .int t0), (0, .ref a_this), (1, .int x1)]) hx hb dX11_fewest_22 rfl hl (by decide) rfl (fun ls hl => ?_)
  refine lv_iload_n hx hb dX11_fewest_23 rfl (lv_at hl 0 rfl) ?_
  refine lv_if_ne (tgt := 32) hx hb dX11_fewest_24 (by decide) (fun c3 => ?_) (fun c3 => ?_)
  · have h := h.2 c3
    refine pl_X11_fewest_32 ha hr h hw (lv_sub hl [1, 2, 0] rfl)
  · have h := h.1 c3
    refine lv_aload_n hx hb dX11_fewest_27 rfl (lv_at hl 1 rfl) ?_
    refine g_cvi (rm := { frames := 2, cells := 0, slots := 0, locals := 150 }) (wn := (fun (u : Unit) => (w_X11_fewest cy a_this a_refusals a_s a_met a_best a_kept w_image w_read w_tape w_told w_squares w_far w_queue v_refusals v_s v_isImage v_taped v_at v_met v_wrongHour v_wrongThing v_best v_kept v_soonest v_bestSteps))) (As := []) ha hw hl.1 (c_X11_wrongSoonest (cy := cy)) (cwV 0 ha.2.2.2.2.1 gX11_fewest_X11_wrongSoonest rfl rfl rfl hq_X11_wrongSoonest ⟨Nat.le_of_ble_eq_true rfl, Nat.le_of_ble_eq_true rfl⟩) [0, 2] [1, 3, 4, 5] [4, 0, 5, 1, 2, 3] rfl rfl rfl rfl (by decide) rfl (fun _ => rfl) rfl rfl h rfl rfl (Nat.le_of_ble_eq_true rfl) dX11_fewest_28 ⟨Nat.le_refl _, Nat.le_refl _⟩ (fun r34 u H locs h hw => ?_)
    have hw : wd D A s.heap (w_X11_fewest cy a_this a_refusals a_s a_met a_best a_kept w_image w_read w_tape w_told w_squares w_far w_queue v_refusals v_s v_isImage v_taped v_at v_met v_wrongHour v_wrongThing v_best v_kept v_soonest v_bestSteps) H locs := hw
    try dsimp only at h
    refine lv_istore_n (lv' := [(2, .int r34), (0, .ref a_this), (1, .int x1)]) hx hb dX11_fewest_31 rfl hl (by decide) rfl (fun ls hl => ?_)
    refine pl_X11_fewest_32 ha hr h hw (lv_sub hl [1, 2, 0] rfl)
def wp_X11_fewest (x1 : Int32) (v_refusals : IA) (v_s : IA) (v_met : IA) (v_best : IA) (v_kept : IA) (v_soonest : Int32) (v_bestSteps : Int32) (K : Int32 → IA → IA → IA → IA → IA → Int32 → Int32 → Prop) : Prop := ((v_s (0 : Int32).toNatClampNeg) = (1 : Int32) → wp_X11_fewest_22 x1 K v_refusals v_s v_met v_best v_kept v_soonest v_bestSteps (-3 : Int32)) ∧ (¬ ((v_s (0 : Int32).toNatClampNeg) = (1 : Int32)) → wp_X11_within x1 (0 : Int32) (99 : Int32) (fun (r2 : Int32) => wp_X11_fewest_22 x1 K v_refusals v_s v_met v_best v_kept v_soonest v_bestSteps r2))
set_option maxHeartbeats 4000000 in
set_option maxRecDepth 100000 in
theorem c_X11_fewest {l : Launch} {D : va_G} {cy : ClassId} {a_this a_refusals a_s a_met a_best a_kept : Nat} {w_image w_read w_tape w_told w_squares w_far w_queue : Value} {v_refusals : IA} {v_s : IA} {v_isImage : Int32} {v_taped : Int32} {v_at : Int32} {v_met : IA} {v_wrongHour : Int32} {v_wrongThing : Int32} {v_best : IA} {v_kept : IA} {v_soonest : Int32} {v_bestSteps : Int32} {x1 : Int32} {K : Int32 → IA → IA → IA → IA → IA → Int32 → Int32 → Prop} : CtI l yX11_fewest wsX11_fewest { frames := 18, cells := 0, slots := 0, locals := 1644 } 0 0 D cy [.ref a_this, .int x1] (w_X11_fewest cy a_this a_refusals a_s a_met a_best a_kept w_image w_read w_tape w_told w_squares w_far w_queue v_refusals v_s v_isImage v_taped v_at v_met v_wrongHour v_wrongThing v_best v_kept v_soonest v_bestSteps) (wp_X11_fewest x1 v_refusals v_s v_met v_best v_kept v_soonest v_bestSteps K) (fun (u : IA × IA × IA × IA × IA × Int32 × Int32) => (w_X11_fewest cy a_this a_refusals a_s a_met a_best a_kept w_image w_read w_tape w_told w_squares w_far w_queue u.1 u.2.1 v_isImage v_taped v_at u.2.2.1 v_wrongHour v_wrongThing u.2.2.2.1 u.2.2.2.2.1 u.2.2.2.2.2.1 u.2.2.2.2.2.2)) (fun (r : Int32) (u : IA × IA × IA × IA × IA × Int32 × Int32) => K r u.1 u.2.1 u.2.2.1 u.2.2.2.1 u.2.2.2.2.1 u.2.2.2.2.2.1 u.2.2.2.2.2.2) := by
  refine CtI.mk (cc := cX11_fewest) (nL := 7) (ty := .int) (by decide) rfl (Nat.le_of_ble_eq_true rfl) (fun r u h => rfl) ?_
  intro p e s m args below meth c A Q ha hr _ h ls hl hw
  have ha : am p s m args c cX11_fewest 7 RX11 wsX11_fewest D cy A := ha
  have hx := ha.1
  have hb := ha.2.1
  have hl : lv_has ls 7 [(0, .ref a_this), (1, .int x1)] := hl
  have h : ((v_s (0 : Int32).toNatClampNeg) = (1 : Int32) → wp_X11_fewest_22 x1 K v_refusals v_s v_met v_best v_kept v_soonest v_bestSteps (-3 : Int32)) ∧ (¬ ((v_s (0 : Int32).toNatClampNeg) = (1 : Int32)) → wp_X11_within x1 (0 : Int32) (99 : Int32) (fun (r2 : Int32) => wp_X11_fewest_22 x1 K v_refusals v_s v_met v_best v_kept v_soonest v_bestSteps r2)) := h
  refine lv_aload_n hx hb dX11_fewest_0 rfl (lv_at hl 0 rfl) ?_
  refine g_get (ci := 11) ha hw 0 1 rfl hi_X11_fewest_11 (by decide) (List.mem_of_getElem? (i := 1) rfl) rfl rfl dX11_fewest_1 ?_
  refine lv_iconst (v := (0 : Int32)) hx hb dX11_fewest_4 (by decide) ?_
  refine g_ald ha hw 2 rfl (vp_in_iff.mpr (by decide)) dX11_fewest_5 ?_
  refine lv_iconst (v := (1 : Int32)) hx hb dX11_fewest_6 (by decide) ?_
  refine lv_icmp_ne (tgt := 15) hx hb dX11_fewest_7 (by decide) (fun c1 => ?_) (fun c1 => ?_)
  · have h := h.2 c1
    refine lv_iload_n hx hb dX11_fewest_15 rfl (lv_at hl 1 rfl) ?_
    refine lv_iconst (v := (0 : Int32)) hx hb dX11_fewest_16 (by decide) ?_
    refine lv_bipush (v := (99 : Int32)) hx hb dX11_fewest_17 (by decide) ?_
    refine g_csi (rm := { frames := 1, cells := 0, slots := 0, locals := 64 }) (wn := (fun (u : Unit) => (w_X11_fewest cy a_this a_refusals a_s a_met a_best a_kept w_image w_read w_tape w_told w_squares w_far w_queue v_refusals v_s v_isImage v_taped v_at v_met v_wrongHour v_wrongThing v_best v_kept v_soonest v_bestSteps))) (As := [.int x1, .int (0 : Int32), .int (99 : Int32)]) ha hw hl.1 (c_X11_within (cy := cy)) (va_cwS 3 ha.2.2.2.2.1 gX11_fewest_X11_within rfl rfl rfl hq_X11_within ⟨Nat.le_of_ble_eq_true rfl, Nat.le_of_ble_eq_true rfl⟩) [] [0, 1, 2, 3, 4, 5] [0, 1, 2, 3, 4, 5] rfl rfl rfl rfl (by decide) rfl (fun _ => rfl) h rfl rfl (Nat.le_of_ble_eq_true rfl) dX11_fewest_19 ⟨Nat.le_refl _, Nat.le_refl _⟩ (fun r2 u H locs h hw => ?_)
    have hw : wd D A s.heap (w_X11_fewest cy a_this a_refusals a_s a_met a_best a_kept w_image w_read w_tape w_told w_squares w_far w_queue v_refusals v_s v_isImage v_taped v_at v_met v_wrongHour v_wrongThing v_best v_kept v_soonest v_bestSteps) H locs := hw
    try dsimp only at h
    refine pl_X11_fewest_22 ha hr h hw (lv_sub hl [0, 1] rfl)
  · have h := h.1 c1
    refine lv_bipush (v := (-3 : Int32)) hx hb dX11_fewest_10 (by decide) ?_
    refine lv_goto (tgt := 22) hx hb dX11_fewest_12 (by decide) ?_
    refine pl_X11_fewest_22 ha hr h hw (lv_sub hl [0, 1] rfl)
theorem hq_X11_cuts : yX11_cuts.cls = RX11 ∧ yX11_cuts.cls ≠ "java/lang/invoke/MethodHandle" ∧ yX11_cuts.cls ≠ "java/lang/invoke/VarHandle" ∧ (parseMethodDescriptor yX11_cuts.desc).map (fun d => d.parameters.length) = some 0 := by decide +kernel
def w_X11_cuts (cy : ClassId) (a_this a_s : Nat) (w_refusals w_image w_read w_tape w_told w_met w_best w_kept w_squares w_far w_queue : Value) (v_s : IA) (v_isImage : Int32) (v_taped : Int32) (v_at : Int32) (v_wrongHour : Int32) (v_wrongThing : Int32) (v_soonest : Int32) (v_bestSteps : Int32) : va_W := [(a_this, .inr (11, [w_refusals, .ref a_s, w_image, w_read, .int v_isImage, w_tape, w_told, .int v_taped, .int v_at, w_met, .int v_wrongHour, .int v_wrongThing, w_best, w_kept, .int v_soonest, .int v_bestSteps, w_squares, w_far, w_queue])), (a_s, .inl (cy, 120, .inl v_s))]
theorem hi_X11_cuts_11 : ∀ w ∈ u_ws RX11 TX11 19, w ∈ wsX11_cuts := fun _ h => List.mem_cons_of_mem _ (List.mem_append_right _ h)
def wp_X11_cuts_34 (x3 : Int32) (v_s : IA) (E4 : Int32 → Int32 → Prop) (K : Int32 → Prop) : Nat → Int32 → Int32 → Int32 → Prop
  | 0, _, _, _ => False
  | n + 1, x1, x2, x4 => ((v_s (2 : Int32).toNatClampNeg) ≤ x4 → E4 x1 (x2 + (1 : Int32))) ∧ (¬ ((v_s (2 : Int32).toNatClampNeg) ≤ x4) → vp_in ((45 : Int32) + ((4 : Int32) * x4)) 120 ∧ (vp_in (((45 : Int32) + ((4 : Int32) * x4)) + (1 : Int32)) 120 ∧ (wp_X11_comesTo (v_s ((45 : Int32) + ((4 : Int32) * x4)).toNatClampNeg) (v_s (((45 : Int32) + ((4 : Int32) * x4)) + (1 : Int32)).toNatClampNeg) x3 v_s (fun (r6 : Int32) => (r6 = 0 → ∀ x1_8 : Int32, x1_8 = x1 ||| ((1 : Int32) <<< (x2 &&& 31)) → wp_X11_cuts_34 x3 v_s E4 K n x1_8 x2 (x4 + (1 : Int32))) ∧ (¬ (r6 = 0) → wp_X11_cuts_34 x3 v_s E4 K n x1 x2 (x4 + (1 : Int32)))))))
set_option maxHeartbeats 4000000 in
set_option maxRecDepth 100000 in
theorem pl_X11_cuts_34 {p : Program} {l : Launch} {e : Env} {s : State} {m : MethodId} {args : Array Value} {below : List Frame} {meth : Method} {c : Code} {A : Nat → Prop} {Q : State → Prop} {D : va_G} {cy : ClassId} {a_this a_s : Nat} {w_refusals w_image w_read w_tape w_told w_met w_best w_kept w_squares w_far w_queue : Value} {v_s : IA} {v_isImage : Int32} {v_taped : Int32} {v_at : Int32} {v_wrongHour : Int32} {v_wrongThing : Int32} {v_soonest : Int32} {v_bestSteps : Int32} {x3 : Int32} {K : Int32 → Prop} {E4 : Int32 → Int32 → Prop} (ha : am p s m args c cX11_cuts 5 RX11 wsX11_cuts D cy A) (hr : rtI p l e { frames := 4, cells := 0, slots := 0, locals := 329 } s m args below meth c 0 0 Q cX11_cuts D A (fun (u : Unit) => (w_X11_cuts cy a_this a_s w_refusals w_image w_read w_tape w_told w_met w_best w_kept w_squares w_far w_queue v_s v_isImage v_taped v_at v_wrongHour v_wrongThing v_soonest v_bestSteps)) (fun (r : Int32) (u : Unit) => K r)) (hE4 : ∀ (x1' : Int32) (x2' : Int32) (H : Heap) (locs : List Loc) (ls : Array Slot), E4 x1' x2' → wd D A s.heap (w_X11_cuts cy a_this a_s w_refusals w_image w_read w_tape w_told w_met w_best w_kept w_squares w_far w_queue v_s v_isImage v_taped v_at v_wrongHour v_wrongThing v_soonest v_bestSteps) H locs → lv_has ls 5 [(0, .ref a_this), (1, .int x1'), (2, .int x2')] → W p l e { frames := 4, cells := 0, slots := 0, locals := 329 } s m args below meth c H locs 0 0 Q (F0 m 4 ls [])) : ∀ (n : Nat) (x1 : Int32) (x2 : Int32) (x4 : Int32) (H : Heap) (locs : List Loc) (ls : Array Slot), wp_X11_cuts_34 x3 v_s E4 K n x1 x2 x4 → wd D A s.heap (w_X11_cuts cy a_this a_s w_refusals w_image w_read w_tape w_told w_met w_best w_kept w_squares w_far w_queue v_s v_isImage v_taped v_at v_wrongHour v_wrongThing v_soonest v_bestSteps) H locs → lv_has ls 5 [(0, .ref a_this), (1, .int x1), (2, .int x2), (3, .int x3), (4, .int x4)] → W p l e { frames := 4, cells := 0, slots := 0, locals := 329 } s m args below meth c H locs 0 0 Q (F0 m 34 ls []) := by
  have hx := ha.1
  have hb := ha.2.1
  intro n
  induction n with
  | zero => exact fun _ _ _ _ _ _ h _ _ => False.elim h
  | succ n ih =>
    intro x1 x2 x4 H locs ls h hw hl
    have h : ((v_s (2 : Int32).toNatClampNeg) ≤ x4 → E4 x1 (x2 + (1 : Int32))) ∧ (¬ ((v_s (2 : Int32).toNatClampNeg) ≤ x4) → vp_in ((45 : Int32) + ((4 : Int32) * x4)) 120 ∧ (vp_in (((45 : Int32) + ((4 : Int32) * x4)) + (1 : Int32)) 120 ∧ (wp_X11_comesTo (v_s ((45 : Int32) + ((4 : Int32) * x4)).toNatClampNeg) (v_s (((45 : Int32) + ((4 : Int32) * x4)) + (1 : Int32)).toNatClampNeg) x3 v_s (fun (r6 : Int32) => (r6 = 0 → ∀ x1_8 : Int32, x1_8 = x1 ||| ((1 : Int32) <<< (x2 &&& 31)) → wp_X11_cuts_34 x3 v_s E4 K n x1_8 x2 (x4 + (1 : Int32))) ∧ (¬ (r6 = 0) → wp_X11_cuts_34 x3 v_s E4 K n x1 x2 (x4 + (1 : Int32))))))) := h
    refine lv_iload hx hb dX11_cuts_34 (lv_at hl 4 rfl) ?_
    refine lv_aload_n hx hb dX11_cuts_36 rfl (lv_at hl 0 rfl) ?_
    refine g_get (ci := 11) ha hw 0 1 rfl hi_X11_cuts_11 (by decide) (List.mem_of_getElem? (i := 1) rfl) rfl rfl dX11_cuts_37 ?_
    refine lv_iconst (v := (2 : Int32)) hx hb dX11_cuts_40 (by decide) ?_
    refine g_ald ha hw 1 rfl (vp_in_iff.mpr (by decide)) dX11_cuts_41 ?_
    refine lv_icmp_ge (tgt := 91) hx hb dX11_cuts_42 (by decide) (fun c3 => ?_) (fun c3 => ?_)
    · have h := h.1 c3
      refine lv_iinc (v := x2 + (1 : Int32)) (lv' := [(2, .int (x2 + (1 : Int32))), (0, .ref a_this), (1, .int x1), (3, .int x3), (4, .int x4)]) hx hb dX11_cuts_91 hl (k := 2) rfl rfl (by decide) rfl (fun ls hl => ?_)
      refine lv_goto (tgt := 4) hx hb dX11_cuts_94 (by decide) ?_
      exact hE4 _ _ _ _ _ h hw (lv_sub hl [1, 2, 0] rfl)
    · have h := h.2 c3
      refine lv_aload_n hx hb dX11_cuts_45 rfl (lv_at hl 0 rfl) ?_
      refine lv_aload_n hx hb dX11_cuts_46 rfl (lv_at hl 0 rfl) ?_
      refine g_get (ci := 11) ha hw 0 1 rfl hi_X11_cuts_11 (by decide) (List.mem_of_getElem? (i := 1) rfl) rfl rfl dX11_cuts_47 ?_
      refine lv_bipush (v := (45 : Int32)) hx hb dX11_cuts_50 (by decide) ?_
      refine lv_iconst (v := (4 : Int32)) hx hb dX11_cuts_52 (by decide) ?_
      refine lv_iload hx hb dX11_cuts_53 (lv_at hl 4 rfl) ?_
      refine lv_imul hx hb dX11_cuts_55 ?_
      refine lv_iadd hx hb dX11_cuts_56 ?_
      obtain ⟨z4, h⟩ := h
      refine g_ald ha hw 1 rfl z4 dX11_cuts_57 ?_
      refine lv_aload_n hx hb dX11_cuts_58 rfl (lv_at hl 0 rfl) ?_
      refine g_get (ci := 11) ha hw 0 1 rfl hi_X11_cuts_11 (by decide) (List.mem_of_getElem? (i := 1) rfl) rfl rfl dX11_cuts_59 ?_
      refine lv_bipush (v := (45 : Int32)) hx hb dX11_cuts_62 (by decide) ?_
      refine lv_iconst (v := (4 : Int32)) hx hb dX11_cuts_64 (by decide) ?_
      refine lv_iload hx hb dX11_cuts_65 (lv_at hl 4 rfl) ?_
      refine lv_imul hx hb dX11_cuts_67 ?_
      refine lv_iadd hx hb dX11_cuts_68 ?_
      refine lv_iconst (v := (1 : Int32)) hx hb dX11_cuts_69 (by decide) ?_
      refine lv_iadd hx hb dX11_cuts_70 ?_
      obtain ⟨z5, h⟩ := h
      refine g_ald ha hw 1 rfl z5 dX11_cuts_71 ?_
      refine lv_iload_n hx hb dX11_cuts_72 rfl (lv_at hl 3 rfl) ?_
      refine g_cvi (rm := { frames := 3, cells := 0, slots := 0, locals := 242 }) (wn := (fun (u : Unit) => (w_X11_cuts cy a_this a_s w_refusals w_image w_read w_tape w_told w_met w_best w_kept w_squares w_far w_queue v_s v_isImage v_taped v_at v_wrongHour v_wrongThing v_soonest v_bestSteps))) (As := [.int (v_s ((45 : Int32) + ((4 : Int32) * x4)).toNatClampNeg), .int (v_s (((45 : Int32) + ((4 : Int32) * x4)) + (1 : Int32)).toNatClampNeg), .int x3]) ha hw hl.1 (c_X11_comesTo (cy := cy)) (cwV 3 ha.2.2.2.2.1 gX11_cuts_X11_comesTo rfl rfl rfl hq_X11_comesTo ⟨Nat.le_of_ble_eq_true rfl, Nat.le_of_ble_eq_true rfl⟩) [0, 1] [] [0, 1] rfl rfl rfl rfl (by decide) rfl (fun _ => rfl) rfl rfl h rfl rfl (Nat.le_of_ble_eq_true rfl) dX11_cuts_73 ⟨Nat.le_refl _, Nat.le_refl _⟩ (fun r6 u H locs h hw => ?_)
      have hw : wd D A s.heap (w_X11_cuts cy a_this a_s w_refusals w_image w_read w_tape w_told w_met w_best w_kept w_squares w_far w_queue v_s v_isImage v_taped v_at v_wrongHour v_wrongThing v_soonest v_bestSteps) H locs := hw
      obtain ⟨zr6, h⟩ := h
      try dsimp only at h
      refine lv_if_ne (tgt := 85) hx hb dX11_cuts_76 (by decide) (fun c7 => ?_) (fun c7 => ?_)
      · have h := h.2 c7
        refine lv_iinc (v := x4 + (1 : Int32)) (lv' := [(4, .int (x4 + (1 : Int32))), (0, .ref a_this), (1, .int x1), (2, .int x2), (3, .int x3)]) hx hb dX11_cuts_85 hl (k := 4) rfl rfl (by decide) rfl (fun ls hl => ?_)
        refine lv_goto (tgt := 34) hx hb dX11_cuts_88 (by decide) ?_
        exact ih _ _ _ _ _ _ h hw (lv_sub hl [1, 2, 3, 4, 0] rfl)
      · have h := h.1 c7
        refine lv_iload_n hx hb dX11_cuts_79 rfl (lv_at hl 1 rfl) ?_
        refine lv_iconst (v := (1 : Int32)) hx hb dX11_cuts_80 (by decide) ?_
        refine lv_iload_n hx hb dX11_cuts_81 rfl (lv_at hl 2 rfl) ?_
        refine lv_ishl hx hb dX11_cuts_82 ?_
        refine lv_ior hx hb dX11_cuts_83 ?_
        refine lv_topi (fun x1_8 ex1_8 => ?_)
        have h := h x1_8 ex1_8
        refine lv_istore_n (lv' := [(1, .int x1_8), (0, .ref a_this), (2, .int x2), (3, .int x3), (4, .int x4)]) hx hb dX11_cuts_84 rfl hl (by decide) rfl (fun ls hl => ?_)
        refine lv_iinc (v := x4 + (1 : Int32)) (lv' := [(4, .int (x4 + (1 : Int32))), (1, .int x1_8), (0, .ref a_this), (2, .int x2), (3, .int x3)]) hx hb dX11_cuts_85 hl (k := 4) rfl rfl (by decide) rfl (fun ls hl => ?_)
        refine lv_goto (tgt := 34) hx hb dX11_cuts_88 (by decide) ?_
        exact ih _ _ _ _ _ _ h hw (lv_sub hl [2, 1, 3, 4, 0] rfl)
def wp_X11_cuts_4 (v_s : IA) (K : Int32 → Prop) : Nat → Int32 → Int32 → Prop
  | 0, _, _ => False
  | n + 1, x1, x2 => ((v_s (0 : Int32).toNatClampNeg) ≤ x2 → K x1) ∧ (¬ ((v_s (0 : Int32).toNatClampNeg) ≤ x2) → ∀ x3_2 : Int32, x3_2 = (((1 : Int32) <<< ((v_s (0 : Int32).toNatClampNeg) &&& 31)) - (1 : Int32)) &&& (((1 : Int32) <<< (x2 &&& 31)) ^^^ (-1 : Int32)) → ∃ n11 : Nat, wp_X11_cuts_34 x3_2 v_s (fun (x1_9 : Int32) (x2_10 : Int32) => wp_X11_cuts_4 v_s K n x1_9 x2_10) K n11 x1 x2 (0 : Int32))
set_option maxHeartbeats 4000000 in
set_option maxRecDepth 100000 in
theorem pl_X11_cuts_4 {p : Program} {l : Launch} {e : Env} {s : State} {m : MethodId} {args : Array Value} {below : List Frame} {meth : Method} {c : Code} {A : Nat → Prop} {Q : State → Prop} {D : va_G} {cy : ClassId} {a_this a_s : Nat} {w_refusals w_image w_read w_tape w_told w_met w_best w_kept w_squares w_far w_queue : Value} {v_s : IA} {v_isImage : Int32} {v_taped : Int32} {v_at : Int32} {v_wrongHour : Int32} {v_wrongThing : Int32} {v_soonest : Int32} {v_bestSteps : Int32} {K : Int32 → Prop} (ha : am p s m args c cX11_cuts 5 RX11 wsX11_cuts D cy A) (hr : rtI p l e { frames := 4, cells := 0, slots := 0, locals := 329 } s m args below meth c 0 0 Q cX11_cuts D A (fun (u : Unit) => (w_X11_cuts cy a_this a_s w_refusals w_image w_read w_tape w_told w_met w_best w_kept w_squares w_far w_queue v_s v_isImage v_taped v_at v_wrongHour v_wrongThing v_soonest v_bestSteps)) (fun (r : Int32) (u : Unit) => K r)) : ∀ (n : Nat) (x1 : Int32) (x2 : Int32) (H : Heap) (locs : List Loc) (ls : Array Slot), wp_X11_cuts_4 v_s K n x1 x2 → wd D A s.heap (w_X11_cuts cy a_this a_s w_refusals w_image w_read w_tape w_told w_met w_best w_kept w_squares w_far w_queue v_s v_isImage v_taped v_at v_wrongHour v_wrongThing v_soonest v_bestSteps) H locs → lv_has ls 5 [(0, .ref a_this), (1, .int x1), (2, .int x2)] → W p l e { frames := 4, cells := 0, slots := 0, locals := 329 } s m args below meth c H locs 0 0 Q (F0 m 4 ls []) := by
  have hx := ha.1
  have hb := ha.2.1
  intro n
  induction n with
  | zero => exact fun _ _ _ _ _ h _ _ => False.elim h
  | succ n ih =>
    intro x1 x2 H locs ls h hw hl
    have h : ((v_s (0 : Int32).toNatClampNeg) ≤ x2 → K x1) ∧ (¬ ((v_s (0 : Int32).toNatClampNeg) ≤ x2) → ∀ x3_2 : Int32, x3_2 = (((1 : Int32) <<< ((v_s (0 : Int32).toNatClampNeg) &&& 31)) - (1 : Int32)) &&& (((1 : Int32) <<< (x2 &&& 31)) ^^^ (-1 : Int32)) → ∃ n11 : Nat, wp_X11_cuts_34 x3_2 v_s (fun (x1_9 : Int32) (x2_10 : Int32) => wp_X11_cuts_4 v_s K n x1_9 x2_10) K n11 x1 x2 (0 : Int32)) := h
    refine lv_iload_n hx hb dX11_cuts_4 rfl (lv_at hl 2 rfl) ?_
    refine lv_aload_n hx hb dX11_cuts_5 rfl (lv_at hl 0 rfl) ?_
    refine g_get (ci := 11) ha hw 0 1 rfl hi_X11_cuts_11 (by decide) (List.mem_of_getElem? (i := 1) rfl) rfl rfl dX11_cuts_6 ?_
    refine lv_iconst (v := (0 : Int32)) hx hb dX11_cuts_9 (by decide) ?_
    refine g_ald ha hw 1 rfl (vp_in_iff.mpr (by decide)) dX11_cuts_10 ?_
    refine lv_icmp_ge (tgt := 97) hx hb dX11_cuts_11 (by decide) (fun c1 => ?_) (fun c1 => ?_)
    · have h := h.1 c1
      refine lv_iload_n hx hb dX11_cuts_97 rfl (lv_at hl 1 rfl) ?_
      exact hr _ _ () _ _ _ dX11_cuts_98 h hw
    · have h := h.2 c1
      refine lv_iconst (v := (1 : Int32)) hx hb dX11_cuts_14 (by decide) ?_
      refine lv_aload_n hx hb dX11_cuts_15 rfl (lv_at hl 0 rfl) ?_
      refine g_get (ci := 11) ha hw 0 1 rfl hi_X11_cuts_11 (by decide) (List.mem_of_getElem? (i := 1) rfl) rfl rfl dX11_cuts_16 ?_
      refine lv_iconst (v := (0 : Int32)) hx hb dX11_cuts_19 (by decide) ?_
      refine g_ald ha hw 1 rfl (vp_in_iff.mpr (by decide)) dX11_cuts_20 ?_
      refine lv_ishl hx hb dX11_cuts_21 ?_
      refine lv_iconst (v := (1 : Int32)) hx hb dX11_cuts_22 (by decide) ?_
      refine lv_isub hx hb dX11_cuts_23 ?_
      refine lv_iconst (v := (1 : Int32)) hx hb dX11_cuts_24 (by decide) ?_
      refine lv_iload_n hx hb dX11_cuts_25 rfl (lv_at hl 2 rfl) ?_
      refine lv_ishl hx hb dX11_cuts_26 ?_
      refine lv_iconst (v := (-1 : Int32)) hx hb dX11_cuts_27 (by decide) ?_
      refine lv_ixor hx hb dX11_cuts_28 ?_
      refine lv_iand hx hb dX11_cuts_29 ?_
      refine lv_topi (fun x3_2 ex3_2 => ?_)
      have h := h x3_2 ex3_2
      refine lv_istore_n (lv' := [(3, .int x3_2), (0, .ref a_this), (1, .int x1), (2, .int x2)]) hx hb dX11_cuts_30 rfl hl (by decide) rfl (fun ls hl => ?_)
      refine lv_iconst (v := (0 : Int32)) hx hb dX11_cuts_31 (by decide) ?_
      refine lv_istore (lv' := [(4, .int (0 : Int32)), (3, .int x3_2), (0, .ref a_this), (1, .int x1), (2, .int x2)]) hx hb dX11_cuts_32 hl (by decide) rfl (fun ls hl => ?_)
      obtain ⟨n9, h⟩ := h
      refine pl_X11_cuts_34 ha hr ?_ n9 _ _ _ _ _ _ h hw (lv_sub hl [2, 3, 4, 1, 0] rfl)
      · intro x1_9 x2_10 H locs ls h hw hl
        try dsimp only at h
        exact ih _ _ _ _ _ h hw (lv_sub hl [0, 1, 2] rfl)
def wp_X11_cuts (v_s : IA) (K : Int32 → Prop) : Prop := ∃ n12 : Nat, wp_X11_cuts_4 v_s K n12 (0 : Int32) (1 : Int32)
set_option maxHeartbeats 4000000 in
set_option maxRecDepth 100000 in
theorem c_X11_cuts {l : Launch} {D : va_G} {cy : ClassId} {a_this a_s : Nat} {w_refusals w_image w_read w_tape w_told w_met w_best w_kept w_squares w_far w_queue : Value} {v_s : IA} {v_isImage : Int32} {v_taped : Int32} {v_at : Int32} {v_wrongHour : Int32} {v_wrongThing : Int32} {v_soonest : Int32} {v_bestSteps : Int32} {K : Int32 → Prop} : CtI l yX11_cuts wsX11_cuts { frames := 4, cells := 0, slots := 0, locals := 329 } 0 0 D cy [.ref a_this] (w_X11_cuts cy a_this a_s w_refusals w_image w_read w_tape w_told w_met w_best w_kept w_squares w_far w_queue v_s v_isImage v_taped v_at v_wrongHour v_wrongThing v_soonest v_bestSteps) (wp_X11_cuts v_s K) (fun (u : Unit) => (w_X11_cuts cy a_this a_s w_refusals w_image w_read w_tape w_told w_met w_best w_kept w_squares w_far w_queue v_s v_isImage v_taped v_at v_wrongHour v_wrongThing v_soonest v_bestSteps)) (fun (r : Int32) (u : Unit) => K r) := by
  refine CtI.mk (cc := cX11_cuts) (nL := 5) (ty := .int) (by decide) rfl (Nat.le_of_ble_eq_true rfl) (fun r u h => rfl) ?_
  intro p e s m args below meth c A Q ha hr _ h ls hl hw
  have ha : am p s m args c cX11_cuts 5 RX11 wsX11_cuts D cy A := ha
  have hx := ha.1
  have hb := ha.2.1
  have hl : lv_has ls 5 [(0, .ref a_this)] := hl
  have h : ∃ n12 : Nat, wp_X11_cuts_4 v_s K n12 (0 : Int32) (1 : Int32) := h
  refine lv_iconst (v := (0 : Int32)) hx hb dX11_cuts_0 (by decide) ?_
  refine lv_istore_n (lv' := [(1, .int (0 : Int32)), (0, .ref a_this)]) hx hb dX11_cuts_1 rfl hl (by decide) rfl (fun ls hl => ?_)
  refine lv_iconst (v := (1 : Int32)) hx hb dX11_cuts_2 (by decide) ?_
  refine lv_istore_n (lv' := [(2, .int (1 : Int32)), (1, .int (0 : Int32)), (0, .ref a_this)]) hx hb dX11_cuts_3 rfl hl (by decide) rfl (fun ls hl => ?_)
  obtain ⟨n9, h⟩ := h
  refine pl_X11_cuts_4 ha hr n9 _ _ _ _ _ h hw (lv_sub hl [2, 1, 0] rfl)
theorem hq_X11_way : yX11_way.cls = RX11 ∧ yX11_way.cls ≠ "java/lang/invoke/MethodHandle" ∧ yX11_way.cls ≠ "java/lang/invoke/VarHandle" ∧ (parseMethodDescriptor yX11_way.desc).map (fun d => d.parameters.length) = some 3 := by decide +kernel
def w_X11_way (cy : ClassId) (a_this a_refusals a_s : Nat) (w_image w_read w_tape w_told w_met w_best w_kept w_squares w_far w_queue : Value) (v_refusals : IA) (v_s : IA) (v_isImage : Int32) (v_taped : Int32) (v_at : Int32) (v_wrongHour : Int32) (v_wrongThing : Int32) (v_soonest : Int32) (v_bestSteps : Int32) : va_W := [(a_this, .inr (11, [.ref a_refusals, .ref a_s, w_image, w_read, .int v_isImage, w_tape, w_told, .int v_taped, .int v_at, w_met, .int v_wrongHour, .int v_wrongThing, w_best, w_kept, .int v_soonest, .int v_bestSteps, w_squares, w_far, w_queue])), (a_refusals, .inl (cy, 7, .inl v_refusals)), (a_s, .inl (cy, 120, .inl v_s))]
theorem hi_X11_way_11 : ∀ w ∈ u_ws RX11 TX11 19, w ∈ wsX11_way := fun _ h => List.mem_cons_of_mem _ (List.mem_append_right _ h)
def wp_X11_way_27 (x1 : Int32) (x2 : Int32) (x3 : Int32) (v_s : IA) (K : Int32 → IA → Prop) (v_refusals : IA) (t0 : Int32) : Prop := (t0 = 0 → wp_X11_openAt x3 (v_s (3 : Int32).toNatClampNeg) v_s (fun (r4 : Int32) => wp_X11_wayOf x1 x2 r4 v_s (fun (r5 : Int32) => K r5 v_refusals))) ∧ (¬ (t0 = 0) → wp_X11_refuse t0 v_refusals (fun (r6 : Int32) (v_refusals_7 : IA) => K r6 v_refusals_7))
set_option maxHeartbeats 4000000 in
set_option maxRecDepth 100000 in
theorem pl_X11_way_27 {p : Program} {l : Launch} {e : Env} {s : State} {m : MethodId} {args : Array Value} {below : List Frame} {meth : Method} {c : Code} {A : Nat → Prop} {Q : State → Prop} {D : va_G} {cy : ClassId} {a_this a_refusals a_s : Nat} {w_image w_read w_tape w_told w_met w_best w_kept w_squares w_far w_queue : Value} {v_s : IA} {v_isImage : Int32} {v_taped : Int32} {v_at : Int32} {v_wrongHour : Int32} {v_wrongThing : Int32} {v_soonest : Int32} {v_bestSteps : Int32} {x1 : Int32} {x2 : Int32} {x3 : Int32} {K : Int32 → IA → Prop} (ha : am p s m args c cX11_way 5 RX11 wsX11_way D cy A) (hr : rtI p l e { frames := 4, cells := 0, slots := 0, locals := 324 } s m args below meth c 0 0 Q cX11_way D A (fun (u : IA) => (w_X11_way cy a_this a_refusals a_s w_image w_read w_tape w_told w_met w_best w_kept w_squares w_far w_queue u v_s v_isImage v_taped v_at v_wrongHour v_wrongThing v_soonest v_bestSteps)) (fun (r : Int32) (u : IA) => K r u)) {v_refusals : IA} {t0 : Int32} {H : Heap} {locs : List Loc} {ls : Array Slot} : wp_X11_way_27 x1 x2 x3 v_s K v_refusals t0 → wd D A s.heap (w_X11_way cy a_this a_refusals a_s w_image w_read w_tape w_told w_met w_best w_kept w_squares w_far w_queue v_refusals v_s v_isImage v_taped v_at v_wrongHour v_wrongThing v_soonest v_bestSteps) H locs → lv_has ls 5 [(0, .ref a_this), (1, .int x1), (2, .int x2), (3, .int x3)] → W p l e { frames := 4, cells := 0, slots := 0, locals := 324 } s m args below meth c H locs 0 0 Q (F0 m 27 ls [.int t0]) := by
  have hx := ha.1
  have hb := ha.2.1
  intro h hw hl
  have h : (t0 = 0 → wp_X11_openAt x3 (v_s (3 : Int32).toNatClampNeg) v_s (fun (r4 : Int32) => wp_X11_wayOf x1 x2 r4 v_s (fun (r5 : Int32) => K r5 v_refusals))) ∧ (¬ (t0 = 0) → wp_X11_refuse t0 v_refusals (fun (r6 : Int32) (v_refusals_7 : IA) => K r6 v_refusals_7)) := h
  refine lv_istore (lv' := [(4, .int t0), (0, .ref a_this), (1, .int x1), (2, .int x2), (3, .int x3)]) hx hb dX11_way_27 hl (by decide) rfl (fun ls hl => ?_)
  refine lv_iload hx hb dX11_way_29 (lv_at hl 0 rfl) ?_
  refine lv_if_eq (tgt := 43) hx hb dX11_way_31 (by decide) (fun c3 => ?_) (fun c3 => ?_)
  · have h := h.1 c3
    refine lv_aload_n hx hb dX11_way_43 rfl (lv_at hl 1 rfl) ?_
    refine lv_iload_n hx hb dX11_way_44 rfl (lv_at hl 2 rfl) ?_
    refine lv_iload_n hx hb dX11_way_45 rfl (lv_at hl 3 rfl) ?_
    refine lv_aload_n hx hb dX11_way_46 rfl (lv_at hl 1 rfl) ?_
    refine lv_iload_n hx hb dX11_way_47 rfl (lv_at hl 4 rfl) ?_
    refine lv_aload_n hx hb dX11_way_48 rfl (lv_at hl 1 rfl) ?_
    refine g_get (ci := 11) ha hw 0 1 rfl hi_X11_way_11 (by decide) (List.mem_of_getElem? (i := 1) rfl) rfl rfl dX11_way_49 ?_
    refine lv_iconst (v := (3 : Int32)) hx hb dX11_way_52 (by decide) ?_
    refine g_ald ha hw 2 rfl (vp_in_iff.mpr (by decide)) dX11_way_53 ?_
    refine g_cvi (rm := { frames := 3, cells := 0, slots := 0, locals := 234 }) (wn := (fun (u : Unit) => (w_X11_way cy a_this a_refusals a_s w_image w_read w_tape w_told w_met w_best w_kept w_squares w_far w_queue v_refusals v_s v_isImage v_taped v_at v_wrongHour v_wrongThing v_soonest v_bestSteps))) (As := [.int x3, .int (v_s (3 : Int32).toNatClampNeg)]) ha hw hl.1 (c_X11_openAt (cy := cy)) (cwV 2 ha.2.2.2.2.1 gX11_way_X11_openAt rfl rfl rfl hq_X11_openAt ⟨Nat.le_of_ble_eq_true rfl, Nat.le_of_ble_eq_true rfl⟩) [0, 2] [1] [1, 0, 2] rfl rfl rfl rfl (by decide) rfl (fun _ => rfl) rfl rfl h rfl rfl (Nat.le_of_ble_eq_true rfl) dX11_way_54 ⟨Nat.le_refl _, Nat.le_refl _⟩ (fun r4 u H locs h hw => ?_)
    have hw : wd D A s.heap (w_X11_way cy a_this a_refusals a_s w_image w_read w_tape w_told w_met w_best w_kept w_squares w_far w_queue v_refusals v_s v_isImage v_taped v_at v_wrongHour v_wrongThing v_soonest v_bestSteps) H locs := hw
    try dsimp only at h
    refine g_cvi (rm := { frames := 2, cells := 0, slots := 0, locals := 151 }) (wn := (fun (u : Unit) => (w_X11_way cy a_this a_refusals a_s w_image w_read w_tape w_told w_met w_best w_kept w_squares w_far w_queue v_refusals v_s v_isImage v_taped v_at v_wrongHour v_wrongThing v_soonest v_bestSteps))) (As := [.int x1, .int x2, .int r4]) ha hw hl.1 (c_X11_wayOf (cy := cy)) (cwV 3 ha.2.2.2.2.1 gX11_way_X11_wayOf rfl rfl rfl hq_X11_wayOf ⟨Nat.le_of_ble_eq_true rfl, Nat.le_of_ble_eq_true rfl⟩) [0, 2] [1] [1, 0, 2] rfl rfl rfl rfl (by decide) rfl (fun _ => rfl) rfl rfl h rfl rfl (Nat.le_of_ble_eq_true rfl) dX11_way_57 ⟨Nat.le_refl _, Nat.le_refl _⟩ (fun r5 u H locs h hw => ?_)
    have hw : wd D A s.heap (w_X11_way cy a_this a_refusals a_s w_image w_read w_tape w_told w_met w_best w_kept w_squares w_far w_queue v_refusals v_s v_isImage v_taped v_at v_wrongHour v_wrongThing v_soonest v_bestSteps) H locs := hw
    try dsimp only at h
    exact hr _ _ (v_refusals) _ _ _ dX11_way_60 h hw
  · have h := h.2 c3
    refine lv_aload_n hx hb dX11_way_34 rfl (lv_at hl 1 rfl) ?_
    refine lv_iload hx hb dX11_way_35 (lv_at hl 0 rfl) ?_
    refine g_cvi (rm := { frames := 1, cells := 0, slots := 0, locals := 64 }) (wn := (fun (u : IA) => (w_X11_way cy a_this a_refusals a_s w_image w_read w_tape w_told w_met w_best w_kept w_squares w_far w_queue u v_s v_isImage v_taped v_at v_wrongHour v_wrongThing v_soonest v_bestSteps))) (As := [.int t0]) ha hw hl.1 (c_X11_refuse (cy := cy)) (cwV 1 ha.2.2.2.2.1 gX11_way_X11_refuse rfl rfl rfl hq_X11_refuse ⟨Nat.le_of_ble_eq_true rfl, Nat.le_of_ble_eq_true rfl⟩) [0, 1] [2] [1, 2, 0] rfl rfl rfl rfl (by decide) rfl (fun _ => rfl) rfl rfl h rfl rfl (Nat.le_of_ble_eq_true rfl) dX11_way_37 ⟨Nat.le_refl _, Nat.le_refl _⟩ (fun r6 u H locs h hw => ?_)
    obtain ⟨v_refusals_7, rfl⟩ : ∃ z, z = u := ⟨_, rfl⟩
    have hw : wd D A s.heap (w_X11_way cy a_this a_refusals a_s w_image w_read w_tape w_told w_met w_best w_kept w_squares w_far w_queue v_refusals_7 v_s v_isImage v_taped v_at v_wrongHour v_wrongThing v_soonest v_bestSteps) H locs := hw
    try dsimp only at h
    refine lv_goto (tgt := 60) hx hb dX11_way_40 (by decide) ?_
    exact hr _ _ (v_refusals_7) _ _ _ dX11_way_60 h hw
def wp_X11_way (x1 : Int32) (x2 : Int32) (x3 : Int32) (v_refusals : IA) (v_s : IA) (K : Int32 → IA → Prop) : Prop := wp_X11_isPlace x1 v_s (fun (r1 : Int32) => (r1 = 0 → wp_X11_way_27 x1 x2 x3 v_s K v_refusals (-1 : Int32)) ∧ (¬ (r1 = 0) → wp_X11_isPlace x2 v_s (fun (r8 : Int32) => (r8 = 0 → wp_X11_way_27 x1 x2 x3 v_s K v_refusals (-1 : Int32)) ∧ (¬ (r8 = 0) → wp_X11_within x3 (0 : Int32) (99 : Int32) (fun (r10 : Int32) => wp_X11_way_27 x1 x2 x3 v_s K v_refusals r10)))))
set_option maxHeartbeats 4000000 in
set_option maxRecDepth 100000 in
theorem c_X11_way {l : Launch} {D : va_G} {cy : ClassId} {a_this a_refusals a_s : Nat} {w_image w_read w_tape w_told w_met w_best w_kept w_squares w_far w_queue : Value} {v_refusals : IA} {v_s : IA} {v_isImage : Int32} {v_taped : Int32} {v_at : Int32} {v_wrongHour : Int32} {v_wrongThing : Int32} {v_soonest : Int32} {v_bestSteps : Int32} {x1 : Int32} {x2 : Int32} {x3 : Int32} {K : Int32 → IA → Prop} : CtI l yX11_way wsX11_way { frames := 4, cells := 0, slots := 0, locals := 324 } 0 0 D cy [.ref a_this, .int x1, .int x2, .int x3] (w_X11_way cy a_this a_refusals a_s w_image w_read w_tape w_told w_met w_best w_kept w_squares w_far w_queue v_refusals v_s v_isImage v_taped v_at v_wrongHour v_wrongThing v_soonest v_bestSteps) (wp_X11_way x1 x2 x3 v_refusals v_s K) (fun (u : IA) => (w_X11_way cy a_this a_refusals a_s w_image w_read w_tape w_told w_met w_best w_kept w_squares w_far w_queue u v_s v_isImage v_taped v_at v_wrongHour v_wrongThing v_soonest v_bestSteps)) (fun (r : Int32) (u : IA) => K r u) := by
  refine CtI.mk (cc := cX11_way) (nL := 5) (ty := .int) (by decide) rfl (Nat.le_of_ble_eq_true rfl) (fun r u h => rfl) ?_
  intro p e s m args below meth c A Q ha hr _ h ls hl hw
  have ha : am p s m args c cX11_way 5 RX11 wsX11_way D cy A := ha
  have hx := ha.1
  have hb := ha.2.1
  have hl : lv_has ls 5 [(0, .ref a_this), (1, .int x1), (2, .int x2), (3, .int x3)] := hl
  have h : wp_X11_isPlace x1 v_s (fun (r1 : Int32) => (r1 = 0 → wp_X11_way_27 x1 x2 x3 v_s K v_refusals (-1 : Int32)) ∧ (¬ (r1 = 0) → wp_X11_isPlace x2 v_s (fun (r8 : Int32) => (r8 = 0 → wp_X11_way_27 x1 x2 x3 v_s K v_refusals (-1 : Int32)) ∧ (¬ (r8 = 0) → wp_X11_within x3 (0 : Int32) (99 : Int32) (fun (r10 : Int32) => wp_X11_way_27 x1 x2 x3 v_s K v_refusals r10))))) := h
  refine lv_aload_n hx hb dX11_way_0 rfl (lv_at hl 0 rfl) ?_
  refine lv_iload_n hx hb dX11_way_1 rfl (lv_at hl 1 rfl) ?_
  refine g_cvi (rm := { frames := 2, cells := 0, slots := 0, locals := 149 }) (wn := (fun (u : Unit) => (w_X11_way cy a_this a_refusals a_s w_image w_read w_tape w_told w_met w_best w_kept w_squares w_far w_queue v_refusals v_s v_isImage v_taped v_at v_wrongHour v_wrongThing v_soonest v_bestSteps))) (As := [.int x1]) ha hw hl.1 (c_X11_isPlace (cy := cy)) (cwV 1 ha.2.2.2.2.1 gX11_way_X11_isPlace rfl rfl rfl hq_X11_isPlace ⟨Nat.le_of_ble_eq_true rfl, Nat.le_of_ble_eq_true rfl⟩) [0, 2] [1] [1, 0, 2] rfl rfl rfl rfl (by decide) rfl (fun _ => rfl) rfl rfl h rfl rfl (Nat.le_of_ble_eq_true rfl) dX11_way_2 ⟨Nat.le_refl _, Nat.le_refl _⟩ (fun r1 u H locs h hw => ?_)
  have hw : wd D A s.heap (w_X11_way cy a_this a_refusals a_s w_image w_read w_tape w_told w_met w_best w_kept w_squares w_far w_queue v_refusals v_s v_isImage v_taped v_at v_wrongHour v_wrongThing v_soonest v_bestSteps) H locs := hw
  obtain ⟨zr1, h⟩ := h
  try dsimp only at h
  refine lv_if_eq (tgt := 26) hx hb dX11_way_5 (by decide) (fun c2 => ?_) (fun c2 => ?_)
  · have h := h.1 c2
    refine lv_iconst (v := (-1 : Int32)) hx hb dX11_way_26 (by decide) ?_
    refine pl_X11_way_27 ha hr h hw (lv_sub hl [0, 1, 2, 3] rfl)
  · have h := h.2 c2
    refine lv_aload_n hx hb dX11_way_8 rfl (lv_at hl 0 rfl) ?_
    refine lv_iload_n hx hb dX11_way_9 rfl (lv_at hl 2 rfl) ?_
    refine g_cvi (rm := { frames := 2, cells := 0, slots := 0, locals := 149 }) (wn := (fun (u : Unit) => (w_X11_way cy a_this a_refusals a_s w_image w_read w_tape w_told w_met w_best w_kept w_squares w_far w_queue v_refusals v_s v_isImage v_taped v_at v_wrongHour v_wrongThing v_soonest v_bestSteps))) (As := [.int x2]) ha hw hl.1 (c_X11_isPlace (cy := cy)) (cwV 1 ha.2.2.2.2.1 gX11_way_X11_isPlace rfl rfl rfl hq_X11_isPlace ⟨Nat.le_of_ble_eq_true rfl, Nat.le_of_ble_eq_true rfl⟩) [0, 2] [1] [1, 0, 2] rfl rfl rfl rfl (by decide) rfl (fun _ => rfl) rfl rfl h rfl rfl (Nat.le_of_ble_eq_true rfl) dX11_way_10 ⟨Nat.le_refl _, Nat.le_refl _⟩ (fun r8 u H locs h hw => ?_)
    have hw : wd D A s.heap (w_X11_way cy a_this a_refusals a_s w_image w_read w_tape w_told w_met w_best w_kept w_squares w_far w_queue v_refusals v_s v_isImage v_taped v_at v_wrongHour v_wrongThing v_soonest v_bestSteps) H locs := hw
    obtain ⟨zr8, h⟩ := h
    try dsimp only at h
    refine lv_if_eq (tgt := 26) hx hb dX11_way_13 (by decide) (fun c9 => ?_) (fun c9 => ?_)
    · have h := h.1 c9
      refine lv_iconst (v := (-1 : Int32)) hx hb dX11_way_26 (by decide) ?_
      refine pl_X11_way_27 ha hr h hw (lv_sub hl [0, 1, 2, 3] rfl)
    · have h := h.2 c9
      refine lv_iload_n hx hb dX11_way_16 rfl (lv_at hl 3 rfl) ?_
      refine lv_iconst (v := (0 : Int32)) hx hb dX11_way_17 (by decide) ?_
      refine lv_bipush (v := (99 : Int32)) hx hb dX11_way_18 (by decide) ?_
      refine g_csi (rm := { frames := 1, cells := 0, slots := 0, locals := 64 }) (wn := (fun (u : Unit) => (w_X11_way cy a_this a_refusals a_s w_image w_read w_tape w_told w_met w_best w_kept w_squares w_far w_queue v_refusals v_s v_isImage v_taped v_at v_wrongHour v_wrongThing v_soonest v_bestSteps))) (As := [.int x3, .int (0 : Int32), .int (99 : Int32)]) ha hw hl.1 (c_X11_within (cy := cy)) (va_cwS 3 ha.2.2.2.2.1 gX11_way_X11_within rfl rfl rfl hq_X11_within ⟨Nat.le_of_ble_eq_true rfl, Nat.le_of_ble_eq_true rfl⟩) [] [0, 1, 2] [0, 1, 2] rfl rfl rfl rfl (by decide) rfl (fun _ => rfl) h rfl rfl (Nat.le_of_ble_eq_true rfl) dX11_way_20 ⟨Nat.le_refl _, Nat.le_refl _⟩ (fun r10 u H locs h hw => ?_)
      have hw : wd D A s.heap (w_X11_way cy a_this a_refusals a_s w_image w_read w_tape w_told w_met w_best w_kept w_squares w_far w_queue v_refusals v_s v_isImage v_taped v_at v_wrongHour v_wrongThing v_soonest v_bestSteps) H locs := hw
      try dsimp only at h
      refine lv_goto (tgt := 27) hx hb dX11_way_23 (by decide) ?_
      refine pl_X11_way_27 ha hr h hw (lv_sub hl [0, 1, 2, 3] rfl)
theorem hq_X11_free : yX11_free.cls = RX11 ∧ yX11_free.cls ≠ "java/lang/invoke/MethodHandle" ∧ yX11_free.cls ≠ "java/lang/invoke/VarHandle" ∧ (parseMethodDescriptor yX11_free.desc).map (fun d => d.parameters.length) = some 1 := by decide +kernel
def w_X11_free (cy : ClassId) (a_this a_refusals a_s : Nat) (w_image w_read w_tape w_told w_met w_best w_kept w_squares w_far w_queue : Value) (v_refusals : IA) (v_s : IA) (v_isImage : Int32) (v_taped : Int32) (v_at : Int32) (v_wrongHour : Int32) (v_wrongThing : Int32) (v_soonest : Int32) (v_bestSteps : Int32) : va_W := [(a_this, .inr (11, [.ref a_refusals, .ref a_s, w_image, w_read, .int v_isImage, w_tape, w_told, .int v_taped, .int v_at, w_met, .int v_wrongHour, .int v_wrongThing, w_best, w_kept, .int v_soonest, .int v_bestSteps, w_squares, w_far, w_queue])), (a_refusals, .inl (cy, 7, .inl v_refusals)), (a_s, .inl (cy, 120, .inl v_s))]
theorem hi_X11_free_11 : ∀ w ∈ u_ws RX11 TX11 19, w ∈ wsX11_free := fun _ h => List.mem_cons_of_mem _ (List.mem_append_right _ h)
def wp_X11_free (x1 : Int32) (v_refusals : IA) (v_s : IA) (K : Int32 → IA → Prop) : Prop := wp_X11_within x1 (0 : Int32) (99 : Int32) (fun (r1 : Int32) => (r1 = 0 → wp_X11_openAt x1 (v_s (3 : Int32).toNatClampNeg) v_s (fun (r3 : Int32) => K r3 v_refusals)) ∧ (¬ (r1 = 0) → wp_X11_refuse r1 v_refusals (fun (r4 : Int32) (v_refusals_5 : IA) => K r4 v_refusals_5)))
set_option maxHeartbeats 4000000 in
set_option maxRecDepth 100000 in
theorem c_X11_free {l : Launch} {D : va_G} {cy : ClassId} {a_this a_refusals a_s : Nat} {w_image w_read w_tape w_told w_met w_best w_kept w_squares w_far w_queue : Value} {v_refusals : IA} {v_s : IA} {v_isImage : Int32} {v_taped : Int32} {v_at : Int32} {v_wrongHour : Int32} {v_wrongThing : Int32} {v_soonest : Int32} {v_bestSteps : Int32} {x1 : Int32} {K : Int32 → IA → Prop} : CtI l yX11_free wsX11_free { frames := 4, cells := 0, slots := 0, locals := 324 } 0 0 D cy [.ref a_this, .int x1] (w_X11_free cy a_this a_refusals a_s w_image w_read w_tape w_told w_met w_best w_kept w_squares w_far w_queue v_refusals v_s v_isImage v_taped v_at v_wrongHour v_wrongThing v_soonest v_bestSteps) (wp_X11_free x1 v_refusals v_s K) (fun (u : IA) => (w_X11_free cy a_this a_refusals a_s w_image w_read w_tape w_told w_met w_best w_kept w_squares w_far w_queue u v_s v_isImage v_taped v_at v_wrongHour v_wrongThing v_soonest v_bestSteps)) (fun (r : Int32) (u : IA) => K r u) := by
  refine CtI.mk (cc := cX11_free) (nL := 3) (ty := .int) (by decide) rfl (Nat.le_of_ble_eq_true rfl) (fun r u h => rfl) ?_
  intro p e s m args below meth c A Q ha hr _ h ls hl hw
  have ha : am p s m args c cX11_free 3 RX11 wsX11_free D cy A := ha
  have hx := ha.1
  have hb := ha.2.1
  have hl : lv_has ls 3 [(0, .ref a_this), (1, .int x1)] := hl
  have h : wp_X11_within x1 (0 : Int32) (99 : Int32) (fun (r1 : Int32) => (r1 = 0 → wp_X11_openAt x1 (v_s (3 : Int32).toNatClampNeg) v_s (fun (r3 : Int32) => K r3 v_refusals)) ∧ (¬ (r1 = 0) → wp_X11_refuse r1 v_refusals (fun (r4 : Int32) (v_refusals_5 : IA) => K r4 v_refusals_5))) := h
  refine lv_iload_n hx hb dX11_free_0 rfl (lv_at hl 1 rfl) ?_
  refine lv_iconst (v := (0 : Int32)) hx hb dX11_free_1 (by decide) ?_
  refine lv_bipush (v := (99 : Int32)) hx hb dX11_free_2 (by decide) ?_
  refine g_csi (rm := { frames := 1, cells := 0, slots := 0, locals := 64 }) (wn := (fun (u : Unit) => (w_X11_free cy a_this a_refusals a_s w_image w_read w_tape w_told w_met w_best w_kept w_squares w_far w_queue v_refusals v_s v_isImage v_taped v_at v_wrongHour v_wrongThing v_soonest v_bestSteps))) (As := [.int x1, .int (0 : Int32), .int (99 : Int32)]) ha hw hl.1 (c_X11_within (cy := cy)) (va_cwS 3 ha.2.2.2.2.1 gX11_free_X11_within rfl rfl rfl hq_X11_within ⟨Nat.le_of_ble_eq_true rfl, Nat.le_of_ble_eq_true rfl⟩) [] [0, 1, 2] [0, 1, 2] rfl rfl rfl rfl (by decide) rfl (fun _ => rfl) h rfl rfl (Nat.le_of_ble_eq_true rfl) dX11_free_4 ⟨Nat.le_refl _, Nat.le_refl _⟩ (fun r1 u H locs h hw => ?_)
  have hw : wd D A s.heap (w_X11_free cy a_this a_refusals a_s w_image w_read w_tape w_told w_met w_best w_kept w_squares w_far w_queue v_refusals v_s v_isImage v_taped v_at v_wrongHour v_wrongThing v_soonest v_bestSteps) H locs := hw
  try dsimp only at h
  refine lv_istore_n (lv' := [(2, .int r1), (0, .ref a_this), (1, .int x1)]) hx hb dX11_free_7 rfl hl (by decide) rfl (fun ls hl => ?_)
  refine lv_iload_n hx hb dX11_free_8 rfl (lv_at hl 0 rfl) ?_
  refine lv_if_eq (tgt := 20) hx hb dX11_free_9 (by decide) (fun c2 => ?_) (fun c2 => ?_)
  · have h := h.1 c2
    refine lv_aload_n hx hb dX11_free_20 rfl (lv_at hl 1 rfl) ?_
    refine lv_iload_n hx hb dX11_free_21 rfl (lv_at hl 2 rfl) ?_
    refine lv_aload_n hx hb dX11_free_22 rfl (lv_at hl 1 rfl) ?_
    refine g_get (ci := 11) ha hw 0 1 rfl hi_X11_free_11 (by decide) (List.mem_of_getElem? (i := 1) rfl) rfl rfl dX11_free_23 ?_
    refine lv_iconst (v := (3 : Int32)) hx hb dX11_free_26 (by decide) ?_
    refine g_ald ha hw 2 rfl (vp_in_iff.mpr (by decide)) dX11_free_27 ?_
    refine g_cvi (rm := { frames := 3, cells := 0, slots := 0, locals := 234 }) (wn := (fun (u : Unit) => (w_X11_free cy a_this a_refusals a_s w_image w_read w_tape w_told w_met w_best w_kept w_squares w_far w_queue v_refusals v_s v_isImage v_taped v_at v_wrongHour v_wrongThing v_soonest v_bestSteps))) (As := [.int x1, .int (v_s (3 : Int32).toNatClampNeg)]) ha hw hl.1 (c_X11_openAt (cy := cy)) (cwV 2 ha.2.2.2.2.1 gX11_free_X11_openAt rfl rfl rfl hq_X11_openAt ⟨Nat.le_of_ble_eq_true rfl, Nat.le_of_ble_eq_true rfl⟩) [0, 2] [1] [1, 0, 2] rfl rfl rfl rfl (by decide) rfl (fun _ => rfl) rfl rfl h rfl rfl (Nat.le_of_ble_eq_true rfl) dX11_free_28 ⟨Nat.le_refl _, Nat.le_refl _⟩ (fun r3 u H locs h hw => ?_)
    have hw : wd D A s.heap (w_X11_free cy a_this a_refusals a_s w_image w_read w_tape w_told w_met w_best w_kept w_squares w_far w_queue v_refusals v_s v_isImage v_taped v_at v_wrongHour v_wrongThing v_soonest v_bestSteps) H locs := hw
    try dsimp only at h
    exact hr _ _ (v_refusals) _ _ _ dX11_free_31 h hw
  · have h := h.2 c2
    refine lv_aload_n hx hb dX11_free_12 rfl (lv_at hl 1 rfl) ?_
    refine lv_iload_n hx hb dX11_free_13 rfl (lv_at hl 0 rfl) ?_
    refine g_cvi (rm := { frames := 1, cells := 0, slots := 0, locals := 64 }) (wn := (fun (u : IA) => (w_X11_free cy a_this a_refusals a_s w_image w_read w_tape w_told w_met w_best w_kept w_squares w_far w_queue u v_s v_isImage v_taped v_at v_wrongHour v_wrongThing v_soonest v_bestSteps))) (As := [.int r1]) ha hw hl.1 (c_X11_refuse (cy := cy)) (cwV 1 ha.2.2.2.2.1 gX11_free_X11_refuse rfl rfl rfl hq_X11_refuse ⟨Nat.le_of_ble_eq_true rfl, Nat.le_of_ble_eq_true rfl⟩) [0, 1] [2] [1, 2, 0] rfl rfl rfl rfl (by decide) rfl (fun _ => rfl) rfl rfl h rfl rfl (Nat.le_of_ble_eq_true rfl) dX11_free_14 ⟨Nat.le_refl _, Nat.le_refl _⟩ (fun r4 u H locs h hw => ?_)
    obtain ⟨v_refusals_5, rfl⟩ : ∃ z, z = u := ⟨_, rfl⟩
    have hw : wd D A s.heap (w_X11_free cy a_this a_refusals a_s w_image w_read w_tape w_told w_met w_best w_kept w_squares w_far w_queue v_refusals_5 v_s v_isImage v_taped v_at v_wrongHour v_wrongThing v_soonest v_bestSteps) H locs := hw
    try dsimp only at h
    refine lv_goto (tgt := 31) hx hb dX11_free_17 (by decide) ?_
    exact hr _ _ (v_refusals_5) _ _ _ dX11_free_31 h hw
theorem hq_X11_isBeside : yX11_isBeside.cls = RX11 ∧ yX11_isBeside.cls ≠ "java/lang/invoke/MethodHandle" ∧ yX11_isBeside.cls ≠ "java/lang/invoke/VarHandle" ∧ (parseMethodDescriptor yX11_isBeside.desc).map (fun d => d.parameters.length) = some 2 := by decide +kernel
def w_X11_isBeside (cy : ClassId) (a_this a_squares : Nat) (w_refusals w_s w_image w_read w_tape w_told w_met w_best w_kept w_far w_queue : Value) (v_isImage : Int32) (v_taped : Int32) (v_at : Int32) (v_wrongHour : Int32) (v_wrongThing : Int32) (v_soonest : Int32) (v_bestSteps : Int32) (v_squares : IA) : va_W := [(a_this, .inr (11, [w_refusals, w_s, w_image, w_read, .int v_isImage, w_tape, w_told, .int v_taped, .int v_at, w_met, .int v_wrongHour, .int v_wrongThing, w_best, w_kept, .int v_soonest, .int v_bestSteps, .ref a_squares, w_far, w_queue])), (a_squares, .inl (cy, 10, .inl v_squares))]
theorem hi_X11_isBeside_11 : ∀ w ∈ u_ws RX11 TX11 19, w ∈ wsX11_isBeside := fun _ h => List.mem_cons_of_mem _ (List.mem_append_right _ h)
def wp_X11_isBeside (x1 : Int32) (x2 : Int32) (v_squares : IA) (K : Int32 → Prop) : Prop := vp_in x1 10 ∧ (vp_in x2 10 ∧ (∀ x3_3 : Int32, x3_3 = ((v_squares x1.toNatClampNeg) / (5 : Int32)) - ((v_squares x2.toNatClampNeg) / (5 : Int32)) → ∀ x4_4 : Int32, x4_4 = ((v_squares x1.toNatClampNeg) - (v_squares x1.toNatClampNeg) / (5 : Int32) * (5 : Int32)) - ((v_squares x2.toNatClampNeg) - (v_squares x2.toNatClampNeg) / (5 : Int32) * (5 : Int32)) → (((x3_3 * x3_3) + (x4_4 * x4_4)) = (1 : Int32) → K (1 : Int32)) ∧ (¬ (((x3_3 * x3_3) + (x4_4 * x4_4)) = (1 : Int32)) → K (0 : Int32))))
set_option maxHeartbeats 4000000 in
set_option maxRecDepth 100000 in
theorem c_X11_isBeside {l : Launch} {D : va_G} {cy : ClassId} {a_this a_squares : Nat} {w_refusals w_s w_image w_read w_tape w_told w_met w_best w_kept w_far w_queue : Value} {v_isImage : Int32} {v_taped : Int32} {v_at : Int32} {v_wrongHour : Int32} {v_wrongThing : Int32} {v_soonest : Int32} {v_bestSteps : Int32} {v_squares : IA} {x1 : Int32} {x2 : Int32} {K : Int32 → Prop} : CtI l yX11_isBeside wsX11_isBeside { frames := 1, cells := 0, slots := 0, locals := 64 } 0 0 D cy [.ref a_this, .int x1, .int x2] (w_X11_isBeside cy a_this a_squares w_refusals w_s w_image w_read w_tape w_told w_met w_best w_kept w_far w_queue v_isImage v_taped v_at v_wrongHour v_wrongThing v_soonest v_bestSteps v_squares) (wp_X11_isBeside x1 x2 v_squares K) (fun (u : Unit) => (w_X11_isBeside cy a_this a_squares w_refusals w_s w_image w_read w_tape w_told w_met w_best w_kept w_far w_queue v_isImage v_taped v_at v_wrongHour v_wrongThing v_soonest v_bestSteps v_squares)) (fun (r : Int32) (u : Unit) => nz r ∧ K r) := by
  refine CtI.mk (cc := cX11_isBeside) (nL := 5) (ty := .boolean) (by decide) rfl (Nat.le_of_ble_eq_true rfl) (fun r u h => h.1.nar) ?_
  intro p e s m args below meth c A Q ha hr _ h ls hl hw
  have ha : am p s m args c cX11_isBeside 5 RX11 wsX11_isBeside D cy A := ha
  have hx := ha.1
  have hb := ha.2.1
  have hl : lv_has ls 5 [(0, .ref a_this), (1, .int x1), (2, .int x2)] := hl
  have h : vp_in x1 10 ∧ (vp_in x2 10 ∧ (∀ x3_3 : Int32, x3_3 = ((v_squares x1.toNatClampNeg) / (5 : Int32)) - ((v_squares x2.toNatClampNeg) / (5 : Int32)) → ∀ x4_4 : Int32, x4_4 = ((v_squares x1.toNatClampNeg) - (v_squares x1.toNatClampNeg) / (5 : Int32) * (5 : Int32)) - ((v_squares x2.toNatClampNeg) - (v_squares x2.toNatClampNeg) / (5 : Int32) * (5 : Int32)) → (((x3_3 * x3_3) + (x4_4 * x4_4)) = (1 : Int32) → K (1 : Int32)) ∧ (¬ (((x3_3 * x3_3) + (x4_4 * x4_4)) = (1 : Int32)) → K (0 : Int32)))) := h
  refine lv_aload_n hx hb dX11_isBeside_0 rfl (lv_at hl 0 rfl) ?_
  refine g_get (ci := 11) ha hw 0 16 rfl hi_X11_isBeside_11 (by decide) (List.mem_of_getElem? (i := 1) rfl) rfl rfl dX11_isBeside_1 ?_
  refine lv_iload_n hx hb dX11_isBeside_4 rfl (lv_at hl 1 rfl) ?_
  obtain ⟨z1, h⟩ := h
  refine g_ald ha hw 1 rfl z1 dX11_isBeside_5 ?_
  refine lv_iconst (v := (5 : Int32)) hx hb dX11_isBeside_6 (by decide) ?_
  refine lv_idiv hx hb dX11_isBeside_7 (by decide) ?_
  refine lv_aload_n hx hb dX11_isBeside_8 rfl (lv_at hl 0 rfl) ?_
  refine g_get (ci := 11) ha hw 0 16 rfl hi_X11_isBeside_11 (by decide) (List.mem_of_getElem? (i := 1) rfl) rfl rfl dX11_isBeside_9 ?_
  refine lv_iload_n hx hb dX11_isBeside_12 rfl (lv_at hl 2 rfl) ?_
  obtain ⟨z2, h⟩ := h
  refine g_ald ha hw 1 rfl z2 dX11_isBeside_13 ?_
  refine lv_iconst (v := (5 : Int32)) hx hb dX11_isBeside_14 (by decide) ?_
  refine lv_idiv hx hb dX11_isBeside_15 (by decide) ?_
  refine lv_isub hx hb dX11_isBeside_16 ?_
  refine lv_topi (fun x3_3 ex3_3 => ?_)
  have h := h x3_3 ex3_3
  refine lv_istore_n (lv' := [(3, .int x3_3), (0, .ref a_this), (1, .int x1), (2, .int x2)]) hx hb dX11_isBeside_17 rfl hl (by decide) rfl (fun ls hl => ?_)
  refine lv_aload_n hx hb dX11_isBeside_18 rfl (lv_at hl 1 rfl) ?_
  refine g_get (ci := 11) ha hw 0 16 rfl hi_X11_isBeside_11 (by decide) (List.mem_of_getElem? (i := 1) rfl) rfl rfl dX11_isBeside_19 ?_
  refine lv_iload_n hx hb dX11_isBeside_22 rfl (lv_at hl 2 rfl) ?_
  refine g_ald ha hw 1 rfl z1 dX11_isBeside_23 ?_
  refine lv_iconst (v := (5 : Int32)) hx hb dX11_isBeside_24 (by decide) ?_
  refine lv_irem hx hb dX11_isBeside_25 (by decide) ?_
  refine lv_aload_n hx hb dX11_isBeside_26 rfl (lv_at hl 1 rfl) ?_
  refine g_get (ci := 11) ha hw 0 16 rfl hi_X11_isBeside_11 (by decide) (List.mem_of_getElem? (i := 1) rfl) rfl rfl dX11_isBeside_27 ?_
  refine lv_iload_n hx hb dX11_isBeside_30 rfl (lv_at hl 3 rfl) ?_
  refine g_ald ha hw 1 rfl z2 dX11_isBeside_31 ?_
  refine lv_iconst (v := (5 : Int32)) hx hb dX11_isBeside_32 (by decide) ?_
  refine lv_irem hx hb dX11_isBeside_33 (by decide) ?_
  refine lv_isub hx hb dX11_isBeside_34 ?_
  refine lv_topi (fun x4_4 ex4_4 => ?_)
  have h := h x4_4 ex4_4
  refine lv_istore (lv' := [(4, .int x4_4), (3, .int x3_3), (0, .ref a_this), (1, .int x1), (2, .int x2)]) hx hb dX11_isBeside_35 hl (by decide) rfl (fun ls hl => ?_)
  refine lv_iload_n hx hb dX11_isBeside_37 rfl (lv_at hl 1 rfl) ?_
  refine lv_iload_n hx hb dX11_isBeside_38 rfl (lv_at hl 1 rfl) ?_
  refine lv_imul hx hb dX11_isBeside_39 ?_
  refine lv_iload hx hb dX11_isBeside_40 (lv_at hl 0 rfl) ?_
  refine lv_iload hx hb dX11_isBeside_42 (lv_at hl 0 rfl) ?_
  refine lv_imul hx hb dX11_isBeside_44 ?_
  refine lv_iadd hx hb dX11_isBeside_45 ?_
  refine lv_iconst (v := (1 : Int32)) hx hb dX11_isBeside_46 (by decide) ?_
  refine lv_icmp_ne (tgt := 54) hx hb dX11_isBeside_47 (by decide) (fun c5 => ?_) (fun c5 => ?_)
  · have h := h.2 c5
    refine lv_iconst (v := (0 : Int32)) hx hb dX11_isBeside_54 (by decide) ?_
    exact hr _ _ () _ _ _ dX11_isBeside_55 ⟨nz0, h⟩ hw
  · have h := h.1 c5
    refine lv_iconst (v := (1 : Int32)) hx hb dX11_isBeside_50 (by decide) ?_
    refine lv_goto (tgt := 55) hx hb dX11_isBeside_51 (by decide) ?_
    exact hr _ _ () _ _ _ dX11_isBeside_55 ⟨nz1, h⟩ hw
theorem hq_X11_out : yX11_out.cls = RX11 ∧ yX11_out.cls ≠ "java/lang/invoke/MethodHandle" ∧ yX11_out.cls ≠ "java/lang/invoke/VarHandle" ∧ (parseMethodDescriptor yX11_out.desc).map (fun d => d.parameters.length) = some 0 := by decide +kernel
def w_X11_out (cy : ClassId) (a_this a_refusals a_s a_squares a_far a_queue : Nat) (w_image w_read w_tape w_told w_met w_best w_kept : Value) (v_refusals : IA) (v_s : IA) (v_isImage : Int32) (v_taped : Int32) (v_at : Int32) (v_wrongHour : Int32) (v_wrongThing : Int32) (v_soonest : Int32) (v_bestSteps : Int32) (v_squares : IA) (v_far : IA) (v_queue : IA) : va_W := [(a_this, .inr (11, [.ref a_refusals, .ref a_s, w_image, w_read, .int v_isImage, w_tape, w_told, .int v_taped, .int v_at, w_met, .int v_wrongHour, .int v_wrongThing, w_best, w_kept, .int v_soonest, .int v_bestSteps, .ref a_squares, .ref a_far, .ref a_queue])), (a_refusals, .inl (cy, 7, .inl v_refusals)), (a_s, .inl (cy, 120, .inl v_s)), (a_squares, .inl (cy, 10, .inl v_squares)), (a_far, .inl (cy, 10240, .inl v_far)), (a_queue, .inl (cy, 10240, .inl v_queue))]
theorem hi_X11_out_11 : ∀ w ∈ u_ws RX11 TX11 19, w ∈ wsX11_out := fun _ h => List.mem_cons_of_mem _ (List.mem_append_right _ h)
def wp_X11_out_23 (v_s : IA) (E79 : Int32 → Int32 → IA → Prop) (K : Int32 → IA → IA → IA → IA → Prop) : Nat → Int32 → Int32 → Int32 → IA → Prop
  | 0, _, _, _, _ => False
  | n + 1, x1, x2, x3, v_squares => ((25 : Int32) ≤ x3 → E79 x1 x2 v_squares) ∧ (¬ ((25 : Int32) ≤ x3) → vp_in ((95 : Int32) + x3) 120 ∧ (((v_s ((95 : Int32) + x3).toNatClampNeg) = 0 → wp_X11_out_23 v_s E79 K n x1 x2 (x3 + (1 : Int32)) v_squares) ∧ (¬ ((v_s ((95 : Int32) + x3).toNatClampNeg) = 0) → ((v_s ((95 : Int32) + x3).toNatClampNeg) = (2 : Int32) → vp_in x1 10 ∧ (wp_X11_out_23 v_s E79 K n (x1 + (1 : Int32)) x1 (x3 + (1 : Int32)) (upd v_squares x1.toNatClampNeg x3))) ∧ (¬ ((v_s ((95 : Int32) + x3).toNatClampNeg) = (2 : Int32)) → vp_in x1 10 ∧ (wp_X11_out_23 v_s E79 K n (x1 + (1 : Int32)) x2 (x3 + (1 : Int32)) (upd v_squares x1.toNatClampNeg x3))))))
set_option maxHeartbeats 4000000 in
set_option maxRecDepth 100000 in
theorem pl_X11_out_23 {p : Program} {l : Launch} {e : Env} {s : State} {m : MethodId} {args : Array Value} {below : List Frame} {meth : Method} {c : Code} {A : Nat → Prop} {Q : State → Prop} {D : va_G} {cy : ClassId} {a_this a_refusals a_s a_squares a_far a_queue : Nat} {w_image w_read w_tape w_told w_met w_best w_kept : Value} {v_refusals : IA} {v_s : IA} {v_isImage : Int32} {v_taped : Int32} {v_at : Int32} {v_wrongHour : Int32} {v_wrongThing : Int32} {v_soonest : Int32} {v_bestSteps : Int32} {v_far : IA} {v_queue : IA} {K : Int32 → IA → IA → IA → IA → Prop} {E79 : Int32 → Int32 → IA → Prop} (ha : am p s m args c cX11_out 11 RX11 wsX11_out D cy A) (hr : rtI p l e { frames := 2, cells := 0, slots := 0, locals := 152 } s m args below meth c 0 0 Q cX11_out D A (fun (u : IA × IA × IA × IA) => (w_X11_out cy a_this a_refusals a_s a_squares a_far a_queue w_image w_read w_tape w_told w_met w_best w_kept u.1 v_s v_isImage v_taped v_at v_wrongHour v_wrongThing v_soonest v_bestSteps u.2.1 u.2.2.1 u.2.2.2)) (fun (r : Int32) (u : IA × IA × IA × IA) => K r u.1 u.2.1 u.2.2.1 u.2.2.2)) (hE79 : ∀ (x1' : Int32) (x2' : Int32) (v_squares' : IA) (H : Heap) (locs : List Loc) (ls : Array Slot), E79 x1' x2' v_squares' → wd D A s.heap (w_X11_out cy a_this a_refusals a_s a_squares a_far a_queue w_image w_read w_tape w_told w_met w_best w_kept v_refusals v_s v_isImage v_taped v_at v_wrongHour v_wrongThing v_soonest v_bestSteps v_squares' v_far v_queue) H locs → lv_has ls 11 [(0, .ref a_this), (1, .int x1'), (2, .int x2')] → W p l e { frames := 2, cells := 0, slots := 0, locals := 152 } s m args below meth c H locs 0 0 Q (F0 m 79 ls [])) : ∀ (n : Nat) (x1 : Int32) (x2 : Int32) (x3 : Int32) (v_squares : IA) (H : Heap) (locs : List Loc) (ls : Array Slot), wp_X11_out_23 v_s E79 K n x1 x2 x3 v_squares → wd D A s.heap (w_X11_out cy a_this a_refusals a_s a_squares a_far a_queue w_image w_read w_tape w_told w_met w_best w_kept v_refusals v_s v_isImage v_taped v_at v_wrongHour v_wrongThing v_soonest v_bestSteps v_squares v_far v_queue) H locs → lv_has ls 11 [(0, .ref a_this), (1, .int x1), (2, .int x2), (3, .int x3)] → W p l e { frames := 2, cells := 0, slots := 0, locals := 152 } s m args below meth c H locs 0 0 Q (F0 m 23 ls []) := by
  have hx := ha.1
  have hb := ha.2.1
  intro n
  induction n with
  | zero => exact fun _ _ _ _ _ _ _ h _ _ => False.elim h
  | succ n ih =>
    intro x1 x2 x3 v_squares H locs ls h hw hl
    have h : ((25 : Int32) ≤ x3 → E79 x1 x2 v_squares) ∧ (¬ ((25 : Int32) ≤ x3) → vp_in ((95 : Int32) + x3) 120 ∧ (((v_s ((95 : Int32) + x3).toNatClampNeg) = 0 → wp_X11_out_23 v_s E79 K n x1 x2 (x3 + (1 : Int32)) v_squares) ∧ (¬ ((v_s ((95 : Int32) + x3).toNatClampNeg) = 0) → ((v_s ((95 : Int32) + x3).toNatClampNeg) = (2 : Int32) → vp_in x1 10 ∧ (wp_X11_out_23 v_s E79 K n (x1 + (1 : Int32)) x1 (x3 + (1 : Int32)) (upd v_squares x1.toNatClampNeg x3))) ∧ (¬ ((v_s ((95 : Int32) + x3).toNatClampNeg) = (2 : Int32)) → vp_in x1 10 ∧ (wp_X11_out_23 v_s E79 K n (x1 + (1 : Int32)) x2 (x3 + (1 : Int32)) (upd v_squares x1.toNatClampNeg x3)))))) := h
    refine lv_iload_n hx hb dX11_out_23 rfl (lv_at hl 3 rfl) ?_
    refine lv_bipush (v := (25 : Int32)) hx hb dX11_out_24 (by decide) ?_
    refine lv_icmp_ge (tgt := 79) hx hb dX11_out_26 (by decide) (fun c2 => ?_) (fun c2 => ?_)
    · have h := h.1 c2
      exact hE79 _ _ _ _ _ _ h hw (lv_sub hl [0, 1, 2] rfl)
    · have h := h.2 c2
      refine lv_aload_n hx hb dX11_out_29 rfl (lv_at hl 0 rfl) ?_
      refine g_get (ci := 11) ha hw 0 1 rfl hi_X11_out_11 (by decide) (List.mem_of_getElem? (i := 1) rfl) rfl rfl dX11_out_30 ?_
      refine lv_bipush (v := (95 : Int32)) hx hb dX11_out_33 (by decide) ?_
      refine lv_iload_n hx hb dX11_out_35 rfl (lv_at hl 3 rfl) ?_
      refine lv_iadd hx hb dX11_out_36 ?_
      obtain ⟨z3, h⟩ := h
      refine g_ald ha hw 2 rfl z3 dX11_out_37 ?_
      refine lv_if_ne (tgt := 44) hx hb dX11_out_38 (by decide) (fun c4 => ?_) (fun c4 => ?_)
      · have h := h.2 c4
        refine lv_aload_n hx hb dX11_out_44 rfl (lv_at hl 0 rfl) ?_
        refine g_get (ci := 11) ha hw 0 1 rfl hi_X11_out_11 (by decide) (List.mem_of_getElem? (i := 1) rfl) rfl rfl dX11_out_45 ?_
        refine lv_bipush (v := (95 : Int32)) hx hb dX11_out_48 (by decide) ?_
        refine lv_iload_n hx hb dX11_out_50 rfl (lv_at hl 3 rfl) ?_
        refine lv_iadd hx hb dX11_out_51 ?_
        refine g_ald ha hw 2 rfl z3 dX11_out_52 ?_
        refine lv_iconst (v := (2 : Int32)) hx hb dX11_out_53 (by decide) ?_
        refine lv_icmp_ne (tgt := 61) hx hb dX11_out_54 (by decide) (fun c5 => ?_) (fun c5 => ?_)
        · have h := h.2 c5
          refine lv_iload_n hx hb dX11_out_61 rfl (lv_at hl 2 rfl) ?_
          refine lv_istore_n (lv' := [(2, .int x2), (0, .ref a_this), (1, .int x1), (3, .int x3)]) hx hb dX11_out_62 rfl hl (by decide) rfl (fun ls hl => ?_)
          refine lv_aload_n hx hb dX11_out_63 rfl (lv_at hl 1 rfl) ?_
          refine g_get (ci := 11) ha hw 0 16 rfl hi_X11_out_11 (by decide) (List.mem_of_getElem? (i := 2) rfl) rfl rfl dX11_out_64 ?_
          refine lv_iload_n hx hb dX11_out_67 rfl (lv_at hl 2 rfl) ?_
          refine lv_iload_n hx hb dX11_out_68 rfl (lv_at hl 3 rfl) ?_
          obtain ⟨z6, h⟩ := h
          refine g_ast (wn := (w_X11_out cy a_this a_refusals a_s a_squares a_far a_queue w_image w_read w_tape w_told w_met w_best w_kept v_refusals v_s v_isImage v_taped v_at v_wrongHour v_wrongThing v_soonest v_bestSteps (upd v_squares x1.toNatClampNeg x3) v_far v_queue)) ha hw 3 rfl z6 rfl dX11_out_69 (fun H locs hw => ?_)
          refine lv_iinc (v := x1 + (1 : Int32)) (lv' := [(1, .int (x1 + (1 : Int32))), (2, .int x2), (0, .ref a_this), (3, .int x3)]) hx hb dX11_out_70 hl (k := 2) rfl rfl (by decide) rfl (fun ls hl => ?_)
          refine lv_iinc (v := x3 + (1 : Int32)) (lv' := [(3, .int (x3 + (1 : Int32))), (1, .int (x1 + (1 : Int32))), (2, .int x2), (0, .ref a_this)]) hx hb dX11_out_73 hl (k := 3) rfl rfl (by decide) rfl (fun ls hl => ?_)
          refine lv_goto (tgt := 23) hx hb dX11_out_76 (by decide) ?_
          exact ih _ _ _ _ _ _ _ h hw (lv_sub hl [3, 1, 2, 0] rfl)
        · have h := h.1 c5
          refine lv_iload_n hx hb dX11_out_57 rfl (lv_at hl 1 rfl) ?_
          refine lv_goto (tgt := 62) hx hb dX11_out_58 (by decide) ?_
          refine lv_istore_n (lv' := [(2, .int x1), (0, .ref a_this), (1, .int x1), (3, .int x3)]) hx hb dX11_out_62 rfl hl (by decide) rfl (fun ls hl => ?_)
          refine lv_aload_n hx hb dX11_out_63 rfl (lv_at hl 1 rfl) ?_
          refine g_get (ci := 11) ha hw 0 16 rfl hi_X11_out_11 (by decide) (List.mem_of_getElem? (i := 2) rfl) rfl rfl dX11_out_64 ?_
          refine lv_iload_n hx hb dX11_out_67 rfl (lv_at hl 2 rfl) ?_
          refine lv_iload_n hx hb dX11_out_68 rfl (lv_at hl 3 rfl) ?_
          obtain ⟨z7, h⟩ := h
          refine g_ast (wn := (w_X11_out cy a_this a_refusals a_s a_squares a_far a_queue w_image w_read w_tape w_told w_met w_best w_kept v_refusals v_s v_isImage v_taped v_at v_wrongHour v_wrongThing v_soonest v_bestSteps (upd v_squares x1.toNatClampNeg x3) v_far v_queue)) ha hw 3 rfl z7 rfl dX11_out_69 (fun H locs hw => ?_)
          refine lv_iinc (v := x1 + (1 : Int32)) (lv' := [(1, .int (x1 + (1 : Int32))), (2, .int x1), (0, .ref a_this), (3, .int x3)]) hx hb dX11_out_70 hl (k := 2) rfl rfl (by decide) rfl (fun ls hl => ?_)
          refine lv_iinc (v := x3 + (1 : Int32)) (lv' := [(3, .int (x3 + (1 : Int32))), (1, .int (x1 + (1 : Int32))), (2, .int x1), (0, .ref a_this)]) hx hb dX11_out_73 hl (k := 3) rfl rfl (by decide) rfl (fun ls hl => ?_)
          refine lv_goto (tgt := 23) hx hb dX11_out_76 (by decide) ?_
          exact ih _ _ _ _ _ _ _ h hw (lv_sub hl [3, 1, 2, 0] rfl)
      · have h := h.1 c4
        refine lv_goto (tgt := 73) hx hb dX11_out_41 (by decide) ?_
        refine lv_iinc (v := x3 + (1 : Int32)) (lv' := [(3, .int (x3 + (1 : Int32))), (0, .ref a_this), (1, .int x1), (2, .int x2)]) hx hb dX11_out_73 hl (k := 3) rfl rfl (by decide) rfl (fun ls hl => ?_)
        refine lv_goto (tgt := 23) hx hb dX11_out_76 (by decide) ?_
        exact ih _ _ _ _ _ _ _ h hw (lv_sub hl [1, 2, 3, 0] rfl)
def wp_X11_out_94 (E117 : IA → Prop) (K : Int32 → IA → IA → IA → IA → Prop) : Nat → Int32 → IA → Prop
  | 0, _, _ => False
  | n + 1, x4, v_far => ((10240 : Int32) ≤ x4 → E117 v_far) ∧ (¬ ((10240 : Int32) ≤ x4) → vp_in x4 10240 ∧ (wp_X11_out_94 E117 K n (x4 + (1 : Int32)) (upd v_far x4.toNatClampNeg (-9 : Int32))))
set_option maxHeartbeats 4000000 in
set_option maxRecDepth 100000 in
theorem pl_X11_out_94 {p : Program} {l : Launch} {e : Env} {s : State} {m : MethodId} {args : Array Value} {below : List Frame} {meth : Method} {c : Code} {A : Nat → Prop} {Q : State → Prop} {D : va_G} {cy : ClassId} {a_this a_refusals a_s a_squares a_far a_queue : Nat} {w_image w_read w_tape w_told w_met w_best w_kept : Value} {v_refusals : IA} {v_s : IA} {v_isImage : Int32} {v_taped : Int32} {v_at : Int32} {v_wrongHour : Int32} {v_wrongThing : Int32} {v_soonest : Int32} {v_bestSteps : Int32} {v_squares : IA} {v_queue : IA} {x1 : Int32} {x2 : Int32} {x3 : Int32} {K : Int32 → IA → IA → IA → IA → Prop} {E117 : IA → Prop} (ha : am p s m args c cX11_out 11 RX11 wsX11_out D cy A) (hr : rtI p l e { frames := 2, cells := 0, slots := 0, locals := 152 } s m args below meth c 0 0 Q cX11_out D A (fun (u : IA × IA × IA × IA) => (w_X11_out cy a_this a_refusals a_s a_squares a_far a_queue w_image w_read w_tape w_told w_met w_best w_kept u.1 v_s v_isImage v_taped v_at v_wrongHour v_wrongThing v_soonest v_bestSteps u.2.1 u.2.2.1 u.2.2.2)) (fun (r : Int32) (u : IA × IA × IA × IA) => K r u.1 u.2.1 u.2.2.1 u.2.2.2)) (hE117 : ∀ (v_far' : IA) (H : Heap) (locs : List Loc) (ls : Array Slot), E117 v_far' → wd D A s.heap (w_X11_out cy a_this a_refusals a_s a_squares a_far a_queue w_image w_read w_tape w_told w_met w_best w_kept v_refusals v_s v_isImage v_taped v_at v_wrongHour v_wrongThing v_soonest v_bestSteps v_squares v_far' v_queue) H locs → lv_has ls 11 [(0, .ref a_this), (1, .int x1), (2, .int x2), (3, .int x3)] → W p l e { frames := 2, cells := 0, slots := 0, locals := 152 } s m args below meth c H locs 0 0 Q (F0 m 117 ls [])) : ∀ (n : Nat) (x4 : Int32) (v_far : IA) (H : Heap) (locs : List Loc) (ls : Array Slot), wp_X11_out_94 E117 K n x4 v_far → wd D A s.heap (w_X11_out cy a_this a_refusals a_s a_squares a_far a_queue w_image w_read w_tape w_told w_met w_best w_kept v_refusals v_s v_isImage v_taped v_at v_wrongHour v_wrongThing v_soonest v_bestSteps v_squares v_far v_queue) H locs → lv_has ls 11 [(0, .ref a_this), (1, .int x1), (2, .int x2), (3, .int x3), (4, .int x4)] → W p l e { frames := 2, cells := 0, slots := 0, locals := 152 } s m args below meth c H locs 0 0 Q (F0 m 94 ls []) := by
  have hx := ha.1
  have hb := ha.2.1
  intro n
  induction n with
  | zero => exact fun _ _ _ _ _ h _ _ => False.elim h
  | succ n ih =>
    intro x4 v_far H locs ls h hw hl
    have h : ((10240 : Int32) ≤ x4 → E117 v_far) ∧ (¬ ((10240 : Int32) ≤ x4) → vp_in x4 10240 ∧ (wp_X11_out_94 E117 K n (x4 + (1 : Int32)) (upd v_far x4.toNatClampNeg (-9 : Int32)))) := h
    refine lv_iload hx hb dX11_out_94 (lv_at hl 4 rfl) ?_
    refine lv_sipush (v := (10240 : Int32)) hx hb dX11_out_96 (by decide) ?_
    refine lv_icmp_ge (tgt := 117) hx hb dX11_out_99 (by decide) (fun c12 => ?_) (fun c12 => ?_)
    · have h := h.1 c12
      exact hE117 _ _ _ _ h hw (lv_sub hl [0, 1, 2, 3] rfl)
    · have h := h.2 c12
      refine lv_aload_n hx hb dX11_out_102 rfl (lv_at hl 0 rfl) ?_
      refine g_get (ci := 11) ha hw 0 17 rfl hi_X11_out_11 (by decide) (List.mem_of_getElem? (i := 3) rfl) rfl rfl dX11_out_103 ?_
      refine lv_iload hx hb dX11_out_106 (lv_at hl 4 rfl) ?_
      refine lv_bipush (v := (-9 : Int32)) hx hb dX11_out_108 (by decide) ?_
      obtain ⟨z13, h⟩ := h
      refine g_ast (wn := (w_X11_out cy a_this a_refusals a_s a_squares a_far a_queue w_image w_read w_tape w_told w_met w_best w_kept v_refusals v_s v_isImage v_taped v_at v_wrongHour v_wrongThing v_soonest v_bestSteps v_squares (upd v_far x4.toNatClampNeg (-9 : Int32)) v_queue)) ha hw 4 rfl z13 rfl dX11_out_110 (fun H locs hw => ?_)
      refine lv_iinc (v := x4 + (1 : Int32)) (lv' := [(4, .int (x4 + (1 : Int32))), (0, .ref a_this), (1, .int x1), (2, .int x2), (3, .int x3)]) hx hb dX11_out_111 hl (k := 4) rfl rfl (by decide) rfl (fun ls hl => ?_)
      refine lv_goto (tgt := 94) hx hb dX11_out_114 (by decide) ?_
      exact ih _ _ _ _ _ h hw (lv_sub hl [1, 2, 3, 4, 0] rfl)
def wp_X11_out_240 (x5 : Int32) (x6 : Int32) (x7 : Int32) (E206 : Int32 → Int32 → IA → IA → Prop) (K : Int32 → IA → IA → IA → IA → Prop) : Nat → Int32 → Int32 → Int32 → IA → IA → Prop
  | 0, _, _, _, _, _ => False
  | n + 1, x4, x8, x9, v_far, v_queue => ((2 : Int32) ≤ x9 → E206 x4 (x8 + (1 : Int32)) v_far v_queue) ∧ (¬ ((2 : Int32) ≤ x9) → ∀ x10_26 : Int32, x10_26 = ((1024 : Int32) * x8) + (x7 ||| (x9 <<< (x6 &&& 31))) → vp_in x10_26 10240 ∧ (((v_far x10_26.toNatClampNeg) < 0 → vp_in x5 10240 ∧ (vp_in (v_queue x5.toNatClampNeg) 10240 ∧ (vp_in x4 10240 ∧ (wp_X11_out_240 x5 x6 x7 E206 K n (x4 + (1 : Int32)) x8 (x9 + (1 : Int32)) (upd v_far x10_26.toNatClampNeg ((v_far (v_queue x5.toNatClampNeg).toNatClampNeg) + (1 : Int32))) (upd v_queue x4.toNatClampNeg x10_26))))) ∧ (¬ ((v_far x10_26.toNatClampNeg) < 0) → wp_X11_out_240 x5 x6 x7 E206 K n x4 x8 (x9 + (1 : Int32)) v_far v_queue)))
set_option maxHeartbeats 4000000 in
set_option maxRecDepth 100000 in
theorem pl_X11_out_240 {p : Program} {l : Launch} {e : Env} {s : State} {m : MethodId} {args : Array Value} {below : List Frame} {meth : Method} {c : Code} {A : Nat → Prop} {Q : State → Prop} {D : va_G} {cy : ClassId} {a_this a_refusals a_s a_squares a_far a_queue : Nat} {w_image w_read w_tape w_told w_met w_best w_kept : Value} {v_refusals : IA} {v_s : IA} {v_isImage : Int32} {v_taped : Int32} {v_at : Int32} {v_wrongHour : Int32} {v_wrongThing : Int32} {v_soonest : Int32} {v_bestSteps : Int32} {v_squares : IA} {x5 : Int32} {x6 : Int32} {x7 : Int32} {x1 : Int32} {x2 : Int32} {x3 : Int32} {K : Int32 → IA → IA → IA → IA → Prop} {E206 : Int32 → Int32 → IA → IA → Prop} (ha : am p s m args c cX11_out 11 RX11 wsX11_out D cy A) (hr : rtI p l e { frames := 2, cells := 0, slots := 0, locals := 152 } s m args below meth c 0 0 Q cX11_out D A (fun (u : IA × IA × IA × IA) => (w_X11_out cy a_this a_refusals a_s a_squares a_far a_queue w_image w_read w_tape w_told w_met w_best w_kept u.1 v_s v_isImage v_taped v_at v_wrongHour v_wrongThing v_soonest v_bestSteps u.2.1 u.2.2.1 u.2.2.2)) (fun (r : Int32) (u : IA × IA × IA × IA) => K r u.1 u.2.1 u.2.2.1 u.2.2.2)) (hE206 : ∀ (x4' : Int32) (x8' : Int32) (v_far' : IA) (v_queue' : IA) (H : Heap) (locs : List Loc) (ls : Array Slot), E206 x4' x8' v_far' v_queue' → wd D A s.heap (w_X11_out cy a_this a_refusals a_s a_squares a_far a_queue w_image w_read w_tape w_told w_met w_best w_kept v_refusals v_s v_isImage v_taped v_at v_wrongHour v_wrongThing v_soonest v_bestSteps v_squares v_far' v_queue') H locs → lv_has ls 11 [(0, .ref a_this), (1, .int x1), (2, .int x2), (3, .int x3), (4, .int x4'), (5, .int x5), (6, .int x6), (7, .int x7), (8, .int x8')] → W p l e { frames := 2, cells := 0, slots := 0, locals := 152 } s m args below meth c H locs 0 0 Q (F0 m 206 ls [])) : ∀ (n : Nat) (x4 : Int32) (x8 : Int32) (x9 : Int32) (v_far : IA) (v_queue : IA) (H : Heap) (locs : List Loc) (ls : Array Slot), wp_X11_out_240 x5 x6 x7 E206 K n x4 x8 x9 v_far v_queue → wd D A s.heap (w_X11_out cy a_this a_refusals a_s a_squares a_far a_queue w_image w_read w_tape w_told w_met w_best w_kept v_refusals v_s v_isImage v_taped v_at v_wrongHour v_wrongThing v_soonest v_bestSteps v_squares v_far v_queue) H locs → lv_has ls 11 [(0, .ref a_this), (1, .int x1), (2, .int x2), (3, .int x3), (4, .int x4), (5, .int x5), (6, .int x6), (7, .int x7), (8, .int x8), (9, .int x9)] → W p l e { frames := 2, cells := 0, slots := 0, locals := 152 } s m args below meth c H locs 0 0 Q (F0 m 240 ls []) := by
  have hx := ha.1
  have hb := ha.2.1
  intro n
  induction n with
  | zero => exact fun _ _ _ _ _ _ _ _ h _ _ => False.elim h
  | succ n ih =>
    intro x4 x8 x9 v_far v_queue H locs ls h hw hl
    have h : ((2 : Int32) ≤ x9 → E206 x4 (x8 + (1 : Int32)) v_far v_queue) ∧ (¬ ((2 : Int32) ≤ x9) → ∀ x10_26 : Int32, x10_26 = ((1024 : Int32) * x8) + (x7 ||| (x9 <<< (x6 &&& 31))) → vp_in x10_26 10240 ∧ (((v_far x10_26.toNatClampNeg) < 0 → vp_in x5 10240 ∧ (vp_in (v_queue x5.toNatClampNeg) 10240 ∧ (vp_in x4 10240 ∧ (wp_X11_out_240 x5 x6 x7 E206 K n (x4 + (1 : Int32)) x8 (x9 + (1 : Int32)) (upd v_far x10_26.toNatClampNeg ((v_far (v_queue x5.toNatClampNeg).toNatClampNeg) + (1 : Int32))) (upd v_queue x4.toNatClampNeg x10_26))))) ∧ (¬ ((v_far x10_26.toNatClampNeg) < 0) → wp_X11_out_240 x5 x6 x7 E206 K n x4 x8 (x9 + (1 : Int32)) v_far v_queue))) := h
    refine lv_iload hx hb dX11_out_240 (lv_at hl 9 rfl) ?_
    refine lv_iconst (v := (2 : Int32)) hx hb dX11_out_242 (by decide) ?_
    refine lv_icmp_ge (tgt := 315) hx hb dX11_out_243 (by decide) (fun c25 => ?_) (fun c25 => ?_)
    · have h := h.1 c25
      refine lv_iinc (v := x8 + (1 : Int32)) (lv' := [(8, .int (x8 + (1 : Int32))), (0, .ref a_this), (1, .int x1), (2, .int x2), (3, .int x3), (4, .int x4), (5, .int x5), (6, .int x6), (7, .int x7), (9, .int x9)]) hx hb dX11_out_315 hl (k := 8) rfl rfl (by decide) rfl (fun ls hl => ?_)
      refine lv_goto (tgt := 206) hx hb dX11_out_318 (by decide) ?_
      exact hE206 _ _ _ _ _ _ _ h hw (lv_sub hl [1, 2, 3, 4, 5, 6, 7, 8, 0] rfl)
    · have h := h.2 c25
      refine lv_sipush (v := (1024 : Int32)) hx hb dX11_out_246 (by decide) ?_
      refine lv_iload hx hb dX11_out_249 (lv_at hl 8 rfl) ?_
      refine lv_imul hx hb dX11_out_251 ?_
      refine lv_iload hx hb dX11_out_252 (lv_at hl 7 rfl) ?_
      refine lv_iload hx hb dX11_out_254 (lv_at hl 9 rfl) ?_
      refine lv_iload hx hb dX11_out_256 (lv_at hl 6 rfl) ?_
      refine lv_ishl hx hb dX11_out_258 ?_
      refine lv_ior hx hb dX11_out_259 ?_
      refine lv_iadd hx hb dX11_out_260 ?_
      refine lv_topi (fun x10_26 ex10_26 => ?_)
      have h := h x10_26 ex10_26
      refine lv_istore (lv' := [(10, .int x10_26), (0, .ref a_this), (1, .int x1), (2, .int x2), (3, .int x3), (4, .int x4), (5, .int x5), (6, .int x6), (7, .int x7), (8, .int x8), (9, .int x9)]) hx hb dX11_out_261 hl (by decide) rfl (fun ls hl => ?_)
      refine lv_aload_n hx hb dX11_out_263 rfl (lv_at hl 1 rfl) ?_
      refine g_get (ci := 11) ha hw 0 17 rfl hi_X11_out_11 (by decide) (List.mem_of_getElem? (i := 3) rfl) rfl rfl dX11_out_264 ?_
      refine lv_iload hx hb dX11_out_267 (lv_at hl 0 rfl) ?_
      obtain ⟨z27, h⟩ := h
      refine g_ald ha hw 4 rfl z27 dX11_out_269 ?_
      refine lv_if_lt (tgt := 276) hx hb dX11_out_270 (by decide) (fun c28 => ?_) (fun c28 => ?_)
      · have h := h.1 c28
        refine lv_aload_n hx hb dX11_out_276 rfl (lv_at hl 1 rfl) ?_
        refine g_get (ci := 11) ha hw 0 17 rfl hi_X11_out_11 (by decide) (List.mem_of_getElem? (i := 3) rfl) rfl rfl dX11_out_277 ?_
        refine lv_iload hx hb dX11_out_280 (lv_at hl 0 rfl) ?_
        refine lv_aload_n hx hb dX11_out_282 rfl (lv_at hl 1 rfl) ?_
        refine g_get (ci := 11) ha hw 0 17 rfl hi_X11_out_11 (by decide) (List.mem_of_getElem? (i := 3) rfl) rfl rfl dX11_out_283 ?_
        refine lv_aload_n hx hb dX11_out_286 rfl (lv_at hl 1 rfl) ?_
        refine g_get (ci := 11) ha hw 0 18 rfl hi_X11_out_11 (by decide) (List.mem_of_getElem? (i := 4) rfl) rfl rfl dX11_out_287 ?_
        refine lv_iload hx hb dX11_out_290 (lv_at hl 6 rfl) ?_
        obtain ⟨z29, h⟩ := h
        refine g_ald ha hw 5 rfl z29 dX11_out_292 ?_
        obtain ⟨z30, h⟩ := h
        refine g_ald ha hw 4 rfl z30 dX11_out_293 ?_
        refine lv_iconst (v := (1 : Int32)) hx hb dX11_out_294 (by decide) ?_
        refine lv_iadd hx hb dX11_out_295 ?_
        refine g_ast (wn := (w_X11_out cy a_this a_refusals a_s a_squares a_far a_queue w_image w_read w_tape w_told w_met w_best w_kept v_refusals v_s v_isImage v_taped v_at v_wrongHour v_wrongThing v_soonest v_bestSteps v_squares (upd v_far x10_26.toNatClampNeg ((v_far (v_queue x5.toNatClampNeg).toNatClampNeg) + (1 : Int32))) v_queue)) ha hw 4 rfl z27 rfl dX11_out_296 (fun H locs hw => ?_)
        refine lv_aload_n hx hb dX11_out_297 rfl (lv_at hl 1 rfl) ?_
        refine g_get (ci := 11) ha hw 0 18 rfl hi_X11_out_11 (by decide) (List.mem_of_getElem? (i := 4) rfl) rfl rfl dX11_out_298 ?_
        refine lv_iload hx hb dX11_out_301 (lv_at hl 5 rfl) ?_
        refine lv_iload hx hb dX11_out_303 (lv_at hl 0 rfl) ?_
        obtain ⟨z31, h⟩ := h
        refine g_ast (wn := (w_X11_out cy a_this a_refusals a_s a_squares a_far a_queue w_image w_read w_tape w_told w_met w_best w_kept v_refusals v_s v_isImage v_taped v_at v_wrongHour v_wrongThing v_soonest v_bestSteps v_squares (upd v_far x10_26.toNatClampNeg ((v_far (v_queue x5.toNatClampNeg).toNatClampNeg) + (1 : Int32))) (upd v_queue x4.toNatClampNeg x10_26))) ha hw 5 rfl z31 rfl dX11_out_305 (fun H locs hw => ?_)
        refine lv_iinc (v := x4 + (1 : Int32)) (lv' := [(4, .int (x4 + (1 : Int32))), (10, .int x10_26), (0, .ref a_this), (1, .int x1), (2, .int x2), (3, .int x3), (5, .int x5), (6, .int x6), (7, .int x7), (8, .int x8), (9, .int x9)]) hx hb dX11_out_306 hl (k := 5) rfl rfl (by decide) rfl (fun ls hl => ?_)
        refine lv_iinc (v := x9 + (1 : Int32)) (lv' := [(9, .int (x9 + (1 : Int32))), (4, .int (x4 + (1 : Int32))), (10, .int x10_26), (0, .ref a_this), (1, .int x1), (2, .int x2), (3, .int x3), (5, .int x5), (6, .int x6), (7, .int x7), (8, .int x8)]) hx hb dX11_out_309 hl (k := 10) rfl rfl (by decide) rfl (fun ls hl => ?_)
        refine lv_goto (tgt := 240) hx hb dX11_out_312 (by decide) ?_
        exact ih _ _ _ _ _ _ _ _ h hw (lv_sub hl [3, 4, 5, 6, 1, 7, 8, 9, 10, 0] rfl)
      · have h := h.2 c28
        refine lv_goto (tgt := 309) hx hb dX11_out_273 (by decide) ?_
        refine lv_iinc (v := x9 + (1 : Int32)) (lv' := [(9, .int (x9 + (1 : Int32))), (10, .int x10_26), (0, .ref a_this), (1, .int x1), (2, .int x2), (3, .int x3), (4, .int x4), (5, .int x5), (6, .int x6), (7, .int x7), (8, .int x8)]) hx hb dX11_out_309 hl (k := 10) rfl rfl (by decide) rfl (fun ls hl => ?_)
        refine lv_goto (tgt := 240) hx hb dX11_out_312 (by decide) ?_
        exact ih _ _ _ _ _ _ _ _ h hw (lv_sub hl [2, 3, 4, 5, 6, 7, 8, 9, 10, 0] rfl)
def wp_X11_out_206 (x1 : Int32) (x6 : Int32) (x7 : Int32) (v_squares : IA) (E145 : Int32 → Int32 → IA → IA → Prop) (K : Int32 → IA → IA → IA → IA → Prop) : Nat → Int32 → Int32 → Int32 → IA → IA → Prop
  | 0, _, _, _, _, _ => False
  | n + 1, x4, x5, x8, v_far, v_queue => (x1 ≤ x8 → E145 x4 (x5 + (1 : Int32)) v_far v_queue) ∧ (¬ (x1 ≤ x8) → wp_X11_isBeside x6 x8 v_squares (fun (r22 : Int32) => (r22 = 0 → wp_X11_out_206 x1 x6 x7 v_squares E145 K n x4 x5 (x8 + (1 : Int32)) v_far v_queue) ∧ (¬ (r22 = 0) → (((x7 >>> (x8 &&& 31)) &&& (1 : Int32)) = (1 : Int32) → wp_X11_out_206 x1 x6 x7 v_squares E145 K n x4 x5 (x8 + (1 : Int32)) v_far v_queue) ∧ (¬ (((x7 >>> (x8 &&& 31)) &&& (1 : Int32)) = (1 : Int32)) → ∃ n36 : Nat, wp_X11_out_240 x5 x6 x7 (fun (x4_32 : Int32) (x8_33 : Int32) (v_far_34 : IA) (v_queue_35 : IA) => wp_X11_out_206 x1 x6 x7 v_squares E145 K n x4_32 x5 x8_33 v_far_34 v_queue_35) K n36 x4 x8 (0 : Int32) v_far v_queue))))
set_option maxHeartbeats 4000000 in
set_option maxRecDepth 100000 in
theorem pl_X11_out_206 {p : Program} {l : Launch} {e : Env} {s : State} {m : MethodId} {args : Array Value} {below : List Frame} {meth : Method} {c : Code} {A : Nat → Prop} {Q : State → Prop} {D : va_G} {cy : ClassId} {a_this a_refusals a_s a_squares a_far a_queue : Nat} {w_image w_read w_tape w_told w_met w_best w_kept : Value} {v_refusals : IA} {v_s : IA} {v_isImage : Int32} {v_taped : Int32} {v_at : Int32} {v_wrongHour : Int32} {v_wrongThing : Int32} {v_soonest : Int32} {v_bestSteps : Int32} {v_squares : IA} {x1 : Int32} {x6 : Int32} {x7 : Int32} {x2 : Int32} {x3 : Int32} {K : Int32 → IA → IA → IA → IA → Prop} {E145 : Int32 → Int32 → IA → IA → Prop} (ha : am p s m args c cX11_out 11 RX11 wsX11_out D cy A) (hr : rtI p l e { frames := 2, cells := 0, slots := 0, locals := 152 } s m args below meth c 0 0 Q cX11_out D A (fun (u : IA × IA × IA × IA) => (w_X11_out cy a_this a_refusals a_s a_squares a_far a_queue w_image w_read w_tape w_told w_met w_best w_kept u.1 v_s v_isImage v_taped v_at v_wrongHour v_wrongThing v_soonest v_bestSteps u.2.1 u.2.2.1 u.2.2.2)) (fun (r : Int32) (u : IA × IA × IA × IA) => K r u.1 u.2.1 u.2.2.1 u.2.2.2)) (hE145 : ∀ (x4' : Int32) (x5' : Int32) (v_far' : IA) (v_queue' : IA) (H : Heap) (locs : List Loc) (ls : Array Slot), E145 x4' x5' v_far' v_queue' → wd D A s.heap (w_X11_out cy a_this a_refusals a_s a_squares a_far a_queue w_image w_read w_tape w_told w_met w_best w_kept v_refusals v_s v_isImage v_taped v_at v_wrongHour v_wrongThing v_soonest v_bestSteps v_squares v_far' v_queue') H locs → lv_has ls 11 [(0, .ref a_this), (1, .int x1), (2, .int x2), (3, .int x3), (4, .int x4'), (5, .int x5')] → W p l e { frames := 2, cells := 0, slots := 0, locals := 152 } s m args below meth c H locs 0 0 Q (F0 m 145 ls [])) : ∀ (n : Nat) (x4 : Int32) (x5 : Int32) (x8 : Int32) (v_far : IA) (v_queue : IA) (H : Heap) (locs : List Loc) (ls : Array Slot), wp_X11_out_206 x1 x6 x7 v_squares E145 K n x4 x5 x8 v_far v_queue → wd D A s.heap (w_X11_out cy a_this a_refusals a_s a_squares a_far a_queue w_image w_read w_tape w_told w_met w_best w_kept v_refusals v_s v_isImage v_taped v_at v_wrongHour v_wrongThing v_soonest v_bestSteps v_squares v_far v_queue) H locs → lv_has ls 11 [(0, .ref a_this), (1, .int x1), (2, .int x2), (3, .int x3), (4, .int x4), (5, .int x5), (6, .int x6), (7, .int x7), (8, .int x8)] → W p l e { frames := 2, cells := 0, slots := 0, locals := 152 } s m args below meth c H locs 0 0 Q (F0 m 206 ls []) := by
  have hx := ha.1
  have hb := ha.2.1
  intro n
  induction n with
  | zero => exact fun _ _ _ _ _ _ _ _ h _ _ => False.elim h
  | succ n ih =>
    intro x4 x5 x8 v_far v_queue H locs ls h hw hl
    have h : (x1 ≤ x8 → E145 x4 (x5 + (1 : Int32)) v_far v_queue) ∧ (¬ (x1 ≤ x8) → wp_X11_isBeside x6 x8 v_squares (fun (r22 : Int32) => (r22 = 0 → wp_X11_out_206 x1 x6 x7 v_squares E145 K n x4 x5 (x8 + (1 : Int32)) v_far v_queue) ∧ (¬ (r22 = 0) → (((x7 >>> (x8 &&& 31)) &&& (1 : Int32)) = (1 : Int32) → wp_X11_out_206 x1 x6 x7 v_squares E145 K n x4 x5 (x8 + (1 : Int32)) v_far v_queue) ∧ (¬ (((x7 >>> (x8 &&& 31)) &&& (1 : Int32)) = (1 : Int32)) → ∃ n36 : Nat, wp_X11_out_240 x5 x6 x7 (fun (x4_32 : Int32) (x8_33 : Int32) (v_far_34 : IA) (v_queue_35 : IA) => wp_X11_out_206 x1 x6 x7 v_squares E145 K n x4_32 x5 x8_33 v_far_34 v_queue_35) K n36 x4 x8 (0 : Int32) v_far v_queue)))) := h
    refine lv_iload hx hb dX11_out_206 (lv_at hl 8 rfl) ?_
    refine lv_iload_n hx hb dX11_out_208 rfl (lv_at hl 1 rfl) ?_
    refine lv_icmp_ge (tgt := 321) hx hb dX11_out_209 (by decide) (fun c21 => ?_) (fun c21 => ?_)
    · have h := h.1 c21
      refine lv_iinc (v := x5 + (1 : Int32)) (lv' := [(5, .int (x5 + (1 : Int32))), (0, .ref a_this), (1, .int x1), (2, .int x2), (3, .int x3), (4, .int x4), (6, .int x6), (7, .int x7), (8, .int x8)]) hx hb dX11_out_321 hl (k := 5) rfl rfl (by decide) rfl (fun ls hl => ?_)
      refine lv_goto (tgt := 145) hx hb dX11_out_324 (by decide) ?_
      exact hE145 _ _ _ _ _ _ _ h hw (lv_sub hl [1, 2, 3, 4, 5, 0] rfl)
    · have h := h.2 c21
      refine lv_aload_n hx hb dX11_out_212 rfl (lv_at hl 0 rfl) ?_
      refine lv_iload hx hb dX11_out_213 (lv_at hl 6 rfl) ?_
      refine lv_iload hx hb dX11_out_215 (lv_at hl 8 rfl) ?_
      refine g_cvi (rm := { frames := 1, cells := 0, slots := 0, locals := 64 }) (wn := (fun (u : Unit) => (w_X11_out cy a_this a_refusals a_s a_squares a_far a_queue w_image w_read w_tape w_told w_met w_best w_kept v_refusals v_s v_isImage v_taped v_at v_wrongHour v_wrongThing v_soonest v_bestSteps v_squares v_far v_queue))) (As := [.int x6, .int x8]) ha hw hl.1 (c_X11_isBeside (cy := cy)) (cwV 2 ha.2.2.2.2.1 gX11_out_X11_isBeside rfl rfl rfl hq_X11_isBeside ⟨Nat.le_of_ble_eq_true rfl, Nat.le_of_ble_eq_true rfl⟩) [0, 3] [1, 2, 4, 5] [4, 0, 1, 5, 2, 3] rfl rfl rfl rfl (by decide) rfl (fun _ => rfl) rfl rfl h rfl rfl (Nat.le_of_ble_eq_true rfl) dX11_out_217 ⟨Nat.le_refl _, Nat.le_refl _⟩ (fun r22 u H locs h hw => ?_)
      have hw : wd D A s.heap (w_X11_out cy a_this a_refusals a_s a_squares a_far a_queue w_image w_read w_tape w_told w_met w_best w_kept v_refusals v_s v_isImage v_taped v_at v_wrongHour v_wrongThing v_soonest v_bestSteps v_squares v_far v_queue) H locs := hw
      obtain ⟨zr22, h⟩ := h
      try dsimp only at h
      refine lv_if_eq (tgt := 315) hx hb dX11_out_220 (by decide) (fun c23 => ?_) (fun c23 => ?_)
      · have h := h.1 c23
        refine lv_iinc (v := x8 + (1 : Int32)) (lv' := [(8, .int (x8 + (1 : Int32))), (0, .ref a_this), (1, .int x1), (2, .int x2), (3, .int x3), (4, .int x4), (5, .int x5), (6, .int x6), (7, .int x7)]) hx hb dX11_out_315 hl (k := 8) rfl rfl (by decide) rfl (fun ls hl => ?_)
        refine lv_goto (tgt := 206) hx hb dX11_out_318 (by decide) ?_
        exact ih _ _ _ _ _ _ _ _ h hw (lv_sub hl [1, 2, 3, 4, 5, 6, 7, 8, 0] rfl)
      · have h := h.2 c23
        refine lv_iload hx hb dX11_out_223 (lv_at hl 7 rfl) ?_
        refine lv_iload hx hb dX11_out_225 (lv_at hl 8 rfl) ?_
        refine lv_ishr hx hb dX11_out_227 ?_
        refine lv_iconst (v := (1 : Int32)) hx hb dX11_out_228 (by decide) ?_
        refine lv_iand hx hb dX11_out_229 ?_
        refine lv_iconst (v := (1 : Int32)) hx hb dX11_out_230 (by decide) ?_
        refine lv_icmp_ne (tgt := 237) hx hb dX11_out_231 (by decide) (fun c24 => ?_) (fun c24 => ?_)
        · have h := h.2 c24
          refine lv_iconst (v := (0 : Int32)) hx hb dX11_out_237 (by decide) ?_
          refine lv_istore (lv' := [(9, .int (0 : Int32)), (0, .ref a_this), (1, .int x1), (2, .int x2), (3, .int x3), (4, .int x4), (5, .int x5), (6, .int x6), (7, .int x7), (8, .int x8)]) hx hb dX11_out_238 hl (by decide) rfl (fun ls hl => ?_)
          obtain ⟨n9, h⟩ := h
          refine pl_X11_out_240 ha hr ?_ n9 _ _ _ _ _ _ _ _ h hw (lv_sub hl [1, 2, 3, 4, 5, 6, 7, 8, 9, 0] rfl)
          · intro x4_32 x8_33 v_far_34 v_queue_35 H locs ls h hw hl
            try dsimp only at h
            exact ih _ _ _ _ _ _ _ _ h hw (lv_sub hl [0, 1, 2, 3, 4, 5, 6, 7, 8] rfl)
        · have h := h.1 c24
          refine lv_goto (tgt := 315) hx hb dX11_out_234 (by decide) ?_
          refine lv_iinc (v := x8 + (1 : Int32)) (lv' := [(8, .int (x8 + (1 : Int32))), (0, .ref a_this), (1, .int x1), (2, .int x2), (3, .int x3), (4, .int x4), (5, .int x5), (6, .int x6), (7, .int x7)]) hx hb dX11_out_315 hl (k := 8) rfl rfl (by decide) rfl (fun ls hl => ?_)
          refine lv_goto (tgt := 206) hx hb dX11_out_318 (by decide) ?_
          exact ih _ _ _ _ _ _ _ _ h hw (lv_sub hl [1, 2, 3, 4, 5, 6, 7, 8, 0] rfl)
def wp_X11_out_145 (x1 : Int32) (x2 : Int32) (x3 : Int32) (v_refusals : IA) (v_squares : IA) (K : Int32 → IA → IA → IA → IA → Prop) : Nat → Int32 → Int32 → IA → IA → Prop
  | 0, _, _, _, _ => False
  | n + 1, x4, x5, v_far, v_queue => (x4 ≤ x5 → K (-9 : Int32) v_refusals v_squares v_far v_queue) ∧ (¬ (x4 ≤ x5) → vp_in x5 10240 ∧ (∀ x6_18 : Int32, x6_18 = (v_queue x5.toNatClampNeg) / (1024 : Int32) → ∀ x7_19 : Int32, x7_19 = (v_queue x5.toNatClampNeg) - (v_queue x5.toNatClampNeg) / (1024 : Int32) * (1024 : Int32) → (x6_18 = x2 → (x7_19 = x3 → vp_in (v_queue x5.toNatClampNeg) 10240 ∧ (K (v_far (v_queue x5.toNatClampNeg).toNatClampNeg) v_refusals v_squares v_far v_queue)) ∧ (¬ (x7_19 = x3) → ∃ n47 : Nat, wp_X11_out_206 x1 x6_18 x7_19 v_squares (fun (x4_43 : Int32) (x5_44 : Int32) (v_far_45 : IA) (v_queue_46 : IA) => wp_X11_out_145 x1 x2 x3 v_refusals v_squares K n x4_43 x5_44 v_far_45 v_queue_46) K n47 x4 x5 (0 : Int32) v_far v_queue)) ∧ (¬ (x6_18 = x2) → ∃ n41 : Nat, wp_X11_out_206 x1 x6_18 x7_19 v_squares (fun (x4_37 : Int32) (x5_38 : Int32) (v_far_39 : IA) (v_queue_40 : IA) => wp_X11_out_145 x1 x2 x3 v_refusals v_squares K n x4_37 x5_38 v_far_39 v_queue_40) K n41 x4 x5 (0 : Int32) v_far v_queue)))
set_option maxHeartbeats 4000000 in
set_option maxRecDepth 100000 in
theorem pl_X11_out_145 {p : Program} {l : Launch} {e : Env} {s : State} {m : MethodId} {args : Array Value} {below : List Frame} {meth : Method} {c : Code} {A : Nat → Prop} {Q : State → Prop} {D : va_G} {cy : ClassId} {a_this a_refusals a_s a_squares a_far a_queue : Nat} {w_image w_read w_tape w_told w_met w_best w_kept : Value} {v_refusals : IA} {v_s : IA} {v_isImage : Int32} {v_taped : Int32} {v_at : Int32} {v_wrongHour : Int32} {v_wrongThing : Int32} {v_soonest : Int32} {v_bestSteps : Int32} {v_squares : IA} {x1 : Int32} {x2 : Int32} {x3 : Int32} {K : Int32 → IA → IA → IA → IA → Prop} (ha : am p s m args c cX11_out 11 RX11 wsX11_out D cy A) (hr : rtI p l e { frames := 2, cells := 0, slots := 0, locals := 152 } s m args below meth c 0 0 Q cX11_out D A (fun (u : IA × IA × IA × IA) => (w_X11_out cy a_this a_refusals a_s a_squares a_far a_queue w_image w_read w_tape w_told w_met w_best w_kept u.1 v_s v_isImage v_taped v_at v_wrongHour v_wrongThing v_soonest v_bestSteps u.2.1 u.2.2.1 u.2.2.2)) (fun (r : Int32) (u : IA × IA × IA × IA) => K r u.1 u.2.1 u.2.2.1 u.2.2.2)) : ∀ (n : Nat) (x4 : Int32) (x5 : Int32) (v_far : IA) (v_queue : IA) (H : Heap) (locs : List Loc) (ls : Array Slot), wp_X11_out_145 x1 x2 x3 v_refusals v_squares K n x4 x5 v_far v_queue → wd D A s.heap (w_X11_out cy a_this a_refusals a_s a_squares a_far a_queue w_image w_read w_tape w_told w_met w_best w_kept v_refusals v_s v_isImage v_taped v_at v_wrongHour v_wrongThing v_soonest v_bestSteps v_squares v_far v_queue) H locs → lv_has ls 11 [(0, .ref a_this), (1, .int x1), (2, .int x2), (3, .int x3), (4, .int x4), (5, .int x5)] → W p l e { frames := 2, cells := 0, slots := 0, locals := 152 } s m args below meth c H locs 0 0 Q (F0 m 145 ls []) := by
  have hx := ha.1
  have hb := ha.2.1
  intro n
  induction n with
  | zero => exact fun _ _ _ _ _ _ _ h _ _ => False.elim h
  | succ n ih =>
    intro x4 x5 v_far v_queue H locs ls h hw hl
    have h : (x4 ≤ x5 → K (-9 : Int32) v_refusals v_squares v_far v_queue) ∧ (¬ (x4 ≤ x5) → vp_in x5 10240 ∧ (∀ x6_18 : Int32, x6_18 = (v_queue x5.toNatClampNeg) / (1024 : Int32) → ∀ x7_19 : Int32, x7_19 = (v_queue x5.toNatClampNeg) - (v_queue x5.toNatClampNeg) / (1024 : Int32) * (1024 : Int32) → (x6_18 = x2 → (x7_19 = x3 → vp_in (v_queue x5.toNatClampNeg) 10240 ∧ (K (v_far (v_queue x5.toNatClampNeg).toNatClampNeg) v_refusals v_squares v_far v_queue)) ∧ (¬ (x7_19 = x3) → ∃ n47 : Nat, wp_X11_out_206 x1 x6_18 x7_19 v_squares (fun (x4_43 : Int32) (x5_44 : Int32) (v_far_45 : IA) (v_queue_46 : IA) => wp_X11_out_145 x1 x2 x3 v_refusals v_squares K n x4_43 x5_44 v_far_45 v_queue_46) K n47 x4 x5 (0 : Int32) v_far v_queue)) ∧ (¬ (x6_18 = x2) → ∃ n41 : Nat, wp_X11_out_206 x1 x6_18 x7_19 v_squares (fun (x4_37 : Int32) (x5_38 : Int32) (v_far_39 : IA) (v_queue_40 : IA) => wp_X11_out_145 x1 x2 x3 v_refusals v_squares K n x4_37 x5_38 v_far_39 v_queue_40) K n41 x4 x5 (0 : Int32) v_far v_queue))) := h
    refine lv_iload hx hb dX11_out_145 (lv_at hl 5 rfl) ?_
    refine lv_iload hx hb dX11_out_147 (lv_at hl 4 rfl) ?_
    refine lv_icmp_ge (tgt := 327) hx hb dX11_out_149 (by decide) (fun c16 => ?_) (fun c16 => ?_)
    · have h := h.1 c16
      refine lv_bipush (v := (-9 : Int32)) hx hb dX11_out_327 (by decide) ?_
      exact hr _ _ (v_refusals, v_squares, v_far, v_queue) _ _ _ dX11_out_329 h hw
    · have h := h.2 c16
      refine lv_aload_n hx hb dX11_out_152 rfl (lv_at hl 0 rfl) ?_
      refine g_get (ci := 11) ha hw 0 18 rfl hi_X11_out_11 (by decide) (List.mem_of_getElem? (i := 4) rfl) rfl rfl dX11_out_153 ?_
      refine lv_iload hx hb dX11_out_156 (lv_at hl 5 rfl) ?_
      obtain ⟨z17, h⟩ := h
      refine g_ald ha hw 5 rfl z17 dX11_out_158 ?_
      refine lv_sipush (v := (1024 : Int32)) hx hb dX11_out_159 (by decide) ?_
      refine lv_idiv hx hb dX11_out_162 (by decide) ?_
      refine lv_topi (fun x6_18 ex6_18 => ?_)
      have h := h x6_18 ex6_18
      refine lv_istore (lv' := [(6, .int x6_18), (0, .ref a_this), (1, .int x1), (2, .int x2), (3, .int x3), (4, .int x4), (5, .int x5)]) hx hb dX11_out_163 hl (by decide) rfl (fun ls hl => ?_)
      refine lv_aload_n hx hb dX11_out_165 rfl (lv_at hl 1 rfl) ?_
      refine g_get (ci := 11) ha hw 0 18 rfl hi_X11_out_11 (by decide) (List.mem_of_getElem? (i := 4) rfl) rfl rfl dX11_out_166 ?_
      refine lv_iload hx hb dX11_out_169 (lv_at hl 6 rfl) ?_
      refine g_ald ha hw 5 rfl z17 dX11_out_171 ?_
      refine lv_sipush (v := (1024 : Int32)) hx hb dX11_out_172 (by decide) ?_
      refine lv_irem hx hb dX11_out_175 (by decide) ?_
      refine lv_topi (fun x7_19 ex7_19 => ?_)
      have h := h x7_19 ex7_19
      refine lv_istore (lv' := [(7, .int x7_19), (6, .int x6_18), (0, .ref a_this), (1, .int x1), (2, .int x2), (3, .int x3), (4, .int x4), (5, .int x5)]) hx hb dX11_out_176 hl (by decide) rfl (fun ls hl => ?_)
      refine lv_iload hx hb dX11_out_178 (lv_at hl 1 rfl) ?_
      refine lv_iload_n hx hb dX11_out_180 rfl (lv_at hl 4 rfl) ?_
      refine lv_icmp_ne (tgt := 203) hx hb dX11_out_181 (by decide) (fun c20 => ?_) (fun c20 => ?_)
      · have h := h.2 c20
        refine lv_iconst (v := (0 : Int32)) hx hb dX11_out_203 (by decide) ?_
        refine lv_istore (lv' := [(8, .int (0 : Int32)), (7, .int x7_19), (6, .int x6_18), (0, .ref a_this), (1, .int x1), (2, .int x2), (3, .int x3), (4, .int x4), (5, .int x5)]) hx hb dX11_out_204 hl (by decide) rfl (fun ls hl => ?_)
        obtain ⟨n9, h⟩ := h
        refine pl_X11_out_206 ha hr ?_ n9 _ _ _ _ _ _ _ _ h hw (lv_sub hl [3, 4, 5, 6, 7, 8, 2, 1, 0] rfl)
        · intro x4_37 x5_38 v_far_39 v_queue_40 H locs ls h hw hl
          try dsimp only at h
          exact ih _ _ _ _ _ _ _ h hw (lv_sub hl [0, 1, 2, 3, 4, 5] rfl)
      · have h := h.1 c20
        refine lv_iload hx hb dX11_out_184 (lv_at hl 0 rfl) ?_
        refine lv_iload_n hx hb dX11_out_186 rfl (lv_at hl 5 rfl) ?_
        refine lv_icmp_ne (tgt := 203) hx hb dX11_out_187 (by decide) (fun c42 => ?_) (fun c42 => ?_)
        · have h := h.2 c42
          refine lv_iconst (v := (0 : Int32)) hx hb dX11_out_203 (by decide) ?_
          refine lv_istore (lv' := [(8, .int (0 : Int32)), (7, .int x7_19), (6, .int x6_18), (0, .ref a_this), (1, .int x1), (2, .int x2), (3, .int x3), (4, .int x4), (5, .int x5)]) hx hb dX11_out_204 hl (by decide) rfl (fun ls hl => ?_)
          obtain ⟨n9, h⟩ := h
          refine pl_X11_out_206 ha hr ?_ n9 _ _ _ _ _ _ _ _ h hw (lv_sub hl [3, 4, 5, 6, 7, 8, 2, 1, 0] rfl)
          · intro x4_43 x5_44 v_far_45 v_queue_46 H locs ls h hw hl
            try dsimp only at h
            exact ih _ _ _ _ _ _ _ h hw (lv_sub hl [0, 1, 2, 3, 4, 5] rfl)
        · have h := h.1 c42
          refine lv_aload_n hx hb dX11_out_190 rfl (lv_at hl 2 rfl) ?_
          refine g_get (ci := 11) ha hw 0 17 rfl hi_X11_out_11 (by decide) (List.mem_of_getElem? (i := 3) rfl) rfl rfl dX11_out_191 ?_
          refine lv_aload_n hx hb dX11_out_194 rfl (lv_at hl 2 rfl) ?_
          refine g_get (ci := 11) ha hw 0 18 rfl hi_X11_out_11 (by decide) (List.mem_of_getElem? (i := 4) rfl) rfl rfl dX11_out_195 ?_
          refine lv_iload hx hb dX11_out_198 (lv_at hl 7 rfl) ?_
          refine g_ald ha hw 5 rfl z17 dX11_out_200 ?_
          obtain ⟨z48, h⟩ := h
          refine g_ald ha hw 4 rfl z48 dX11_out_201 ?_
          exact hr _ _ (v_refusals, v_squares, v_far, v_queue) _ _ _ dX11_out_202 h hw
def wp_X11_out (v_refusals : IA) (v_s : IA) (v_squares : IA) (v_far : IA) (v_queue : IA) (K : Int32 → IA → IA → IA → IA → Prop) : Prop := ((v_s (93 : Int32).toNatClampNeg) = 0 → wp_X11_refuse (-3 : Int32) v_refusals (fun (r52 : Int32) (v_refusals_53 : IA) => K r52 v_refusals_53 v_squares v_far v_queue)) ∧ (¬ ((v_s (93 : Int32).toNatClampNeg) = 0) → ∃ n51 : Nat, wp_X11_out_23 v_s (fun (x1_8 : Int32) (x2_9 : Int32) (v_squares_10 : IA) => ∀ x3_11 : Int32, x3_11 = (((1 : Int32) <<< (x1_8 &&& 31)) - (1 : Int32)) &&& (((1 : Int32) <<< (x2_9 &&& 31)) ^^^ (-1 : Int32)) → ∃ n50 : Nat, wp_X11_out_94 (fun (v_far_14 : IA) => vp_in ((1024 : Int32) * x2_9) 10240 ∧ (∃ n49 : Nat, wp_X11_out_145 x1_8 x2_9 x3_11 v_refusals v_squares_10 K n49 (1 : Int32) (0 : Int32) (upd v_far_14 ((1024 : Int32) * x2_9).toNatClampNeg (0 : Int32)) (upd v_queue (0 : Int32).toNatClampNeg ((1024 : Int32) * x2_9)))) K n50 (0 : Int32) v_far) K n51 (0 : Int32) (0 : Int32) (0 : Int32) v_squares)
set_option maxHeartbeats 4000000 in
set_option maxRecDepth 100000 in
theorem c_X11_out {l : Launch} {D : va_G} {cy : ClassId} {a_this a_refusals a_s a_squares a_far a_queue : Nat} {w_image w_read w_tape w_told w_met w_best w_kept : Value} {v_refusals : IA} {v_s : IA} {v_isImage : Int32} {v_taped : Int32} {v_at : Int32} {v_wrongHour : Int32} {v_wrongThing : Int32} {v_soonest : Int32} {v_bestSteps : Int32} {v_squares : IA} {v_far : IA} {v_queue : IA} {K : Int32 → IA → IA → IA → IA → Prop} : CtI l yX11_out wsX11_out { frames := 2, cells := 0, slots := 0, locals := 152 } 0 0 D cy [.ref a_this] (w_X11_out cy a_this a_refusals a_s a_squares a_far a_queue w_image w_read w_tape w_told w_met w_best w_kept v_refusals v_s v_isImage v_taped v_at v_wrongHour v_wrongThing v_soonest v_bestSteps v_squares v_far v_queue) (wp_X11_out v_refusals v_s v_squares v_far v_queue K) (fun (u : IA × IA × IA × IA) => (w_X11_out cy a_this a_refusals a_s a_squares a_far a_queue w_image w_read w_tape w_told w_met w_best w_kept u.1 v_s v_isImage v_taped v_at v_wrongHour v_wrongThing v_soonest v_bestSteps u.2.1 u.2.2.1 u.2.2.2)) (fun (r : Int32) (u : IA × IA × IA × IA) => K r u.1 u.2.1 u.2.2.1 u.2.2.2) := by
  refine CtI.mk (cc := cX11_out) (nL := 11) (ty := .int) (by decide) rfl (Nat.le_of_ble_eq_true rfl) (fun r u h => rfl) ?_
  intro p e s m args below meth c A Q ha hr _ h ls hl hw
  have ha : am p s m args c cX11_out 11 RX11 wsX11_out D cy A := ha
  have hx := ha.1
  have hb := ha.2.1
  have hl : lv_has ls 11 [(0, .ref a_this)] := hl
  have h : ((v_s (93 : Int32).toNatClampNeg) = 0 → wp_X11_refuse (-3 : Int32) v_refusals (fun (r52 : Int32) (v_refusals_53 : IA) => K r52 v_refusals_53 v_squares v_far v_queue)) ∧ (¬ ((v_s (93 : Int32).toNatClampNeg) = 0) → ∃ n51 : Nat, wp_X11_out_23 v_s (fun (x1_8 : Int32) (x2_9 : Int32) (v_squares_10 : IA) => ∀ x3_11 : Int32, x3_11 = (((1 : Int32) <<< (x1_8 &&& 31)) - (1 : Int32)) &&& (((1 : Int32) <<< (x2_9 &&& 31)) ^^^ (-1 : Int32)) → ∃ n50 : Nat, wp_X11_out_94 (fun (v_far_14 : IA) => vp_in ((1024 : Int32) * x2_9) 10240 ∧ (∃ n49 : Nat, wp_X11_out_145 x1_8 x2_9 x3_11 v_refusals v_squares_10 K n49 (1 : Int32) (0 : Int32) (upd v_far_14 ((1024 : Int32) * x2_9).toNatClampNeg (0 : Int32)) (upd v_queue (0 : Int32).toNatClampNeg ((1024 : Int32) * x2_9)))) K n50 (0 : Int32) v_far) K n51 (0 : Int32) (0 : Int32) (0 : Int32) v_squares) := h
  refine lv_aload_n hx hb dX11_out_0 rfl (lv_at hl 0 rfl) ?_
  refine g_get (ci := 11) ha hw 0 1 rfl hi_X11_out_11 (by decide) (List.mem_of_getElem? (i := 1) rfl) rfl rfl dX11_out_1 ?_
  refine lv_bipush (v := (93 : Int32)) hx hb dX11_out_4 (by decide) ?_
  refine g_ald ha hw 2 rfl (vp_in_iff.mpr (by decide)) dX11_out_6 ?_
  refine lv_if_ne (tgt := 17) hx hb dX11_out_7 (by decide) (fun c1 => ?_) (fun c1 => ?_)
  · have h := h.2 c1
    refine lv_iconst (v := (0 : Int32)) hx hb dX11_out_17 (by decide) ?_
    refine lv_istore_n (lv' := [(1, .int (0 : Int32)), (0, .ref a_this)]) hx hb dX11_out_18 rfl hl (by decide) rfl (fun ls hl => ?_)
    refine lv_iconst (v := (0 : Int32)) hx hb dX11_out_19 (by decide) ?_
    refine lv_istore_n (lv' := [(2, .int (0 : Int32)), (1, .int (0 : Int32)), (0, .ref a_this)]) hx hb dX11_out_20 rfl hl (by decide) rfl (fun ls hl => ?_)
    refine lv_iconst (v := (0 : Int32)) hx hb dX11_out_21 (by decide) ?_
    refine lv_istore_n (lv' := [(3, .int (0 : Int32)), (2, .int (0 : Int32)), (1, .int (0 : Int32)), (0, .ref a_this)]) hx hb dX11_out_22 rfl hl (by decide) rfl (fun ls hl => ?_)
    obtain ⟨n9, h⟩ := h
    refine pl_X11_out_23 ha hr ?_ n9 _ _ _ _ _ _ _ h hw (lv_sub hl [3, 2, 1, 0] rfl)
    · intro x1_8 x2_9 v_squares_10 H locs ls h hw hl
      try dsimp only at h
      refine lv_iconst (v := (1 : Int32)) hx hb dX11_out_79 (by decide) ?_
      refine lv_iload_n hx hb dX11_out_80 rfl (lv_at hl 1 rfl) ?_
      refine lv_ishl hx hb dX11_out_81 ?_
      refine lv_iconst (v := (1 : Int32)) hx hb dX11_out_82 (by decide) ?_
      refine lv_isub hx hb dX11_out_83 ?_
      refine lv_iconst (v := (1 : Int32)) hx hb dX11_out_84 (by decide) ?_
      refine lv_iload_n hx hb dX11_out_85 rfl (lv_at hl 2 rfl) ?_
      refine lv_ishl hx hb dX11_out_86 ?_
      refine lv_iconst (v := (-1 : Int32)) hx hb dX11_out_87 (by decide) ?_
      refine lv_ixor hx hb dX11_out_88 ?_
      refine lv_iand hx hb dX11_out_89 ?_
      refine lv_topi (fun x3_11 ex3_11 => ?_)
      have h := h x3_11 ex3_11
      refine lv_istore_n (lv' := [(3, .int x3_11), (0, .ref a_this), (1, .int x1_8), (2, .int x2_9)]) hx hb dX11_out_90 rfl hl (by decide) rfl (fun ls hl => ?_)
      refine lv_iconst (v := (0 : Int32)) hx hb dX11_out_91 (by decide) ?_
      refine lv_istore (lv' := [(4, .int (0 : Int32)), (3, .int x3_11), (0, .ref a_this), (1, .int x1_8), (2, .int x2_9)]) hx hb dX11_out_92 hl (by decide) rfl (fun ls hl => ?_)
      obtain ⟨n9, h⟩ := h
      refine pl_X11_out_94 ha hr ?_ n9 _ _ _ _ _ h hw (lv_sub hl [2, 3, 4, 1, 0] rfl)
      · intro v_far_14 H locs ls h hw hl
        try dsimp only at h
        refine lv_aload_n hx hb dX11_out_117 rfl (lv_at hl 0 rfl) ?_
        refine g_get (ci := 11) ha hw 0 17 rfl hi_X11_out_11 (by decide) (List.mem_of_getElem? (i := 3) rfl) rfl rfl dX11_out_118 ?_
        refine lv_sipush (v := (1024 : Int32)) hx hb dX11_out_121 (by decide) ?_
        refine lv_iload_n hx hb dX11_out_124 rfl (lv_at hl 2 rfl) ?_
        refine lv_imul hx hb dX11_out_125 ?_
        refine lv_iconst (v := (0 : Int32)) hx hb dX11_out_126 (by decide) ?_
        obtain ⟨z15, h⟩ := h
        refine g_ast (wn := (w_X11_out cy a_this a_refusals a_s a_squares a_far a_queue w_image w_read w_tape w_told w_met w_best w_kept v_refusals v_s v_isImage v_taped v_at v_wrongHour v_wrongThing v_soonest v_bestSteps v_squares_10 (upd v_far_14 ((1024 : Int32) * x2_9).toNatClampNeg (0 : Int32)) v_queue)) ha hw 4 rfl z15 rfl dX11_out_127 (fun H locs hw => ?_)
        refine lv_aload_n hx hb dX11_out_128 rfl (lv_at hl 0 rfl) ?_
        refine g_get (ci := 11) ha hw 0 18 rfl hi_X11_out_11 (by decide) (List.mem_of_getElem? (i := 4) rfl) rfl rfl dX11_out_129 ?_
        refine lv_iconst (v := (0 : Int32)) hx hb dX11_out_132 (by decide) ?_
        refine lv_sipush (v := (1024 : Int32)) hx hb dX11_out_133 (by decide) ?_
        refine lv_iload_n hx hb dX11_out_136 rfl (lv_at hl 2 rfl) ?_
        refine lv_imul hx hb dX11_out_137 ?_
        refine g_ast (wn := (w_X11_out cy a_this a_refusals a_s a_squares a_far a_queue w_image w_read w_tape w_told w_met w_best w_kept v_refusals v_s v_isImage v_taped v_at v_wrongHour v_wrongThing v_soonest v_bestSteps v_squares_10 (upd v_far_14 ((1024 : Int32) * x2_9).toNatClampNeg (0 : Int32)) (upd v_queue (0 : Int32).toNatClampNeg ((1024 : Int32) * x2_9)))) ha hw 5 rfl (vp_in_iff.mpr (by decide)) rfl dX11_out_138 (fun H locs hw => ?_)
        refine lv_iconst (v := (1 : Int32)) hx hb dX11_out_139 (by decide) ?_
        refine lv_istore (lv' := [(4, .int (1 : Int32)), (0, .ref a_this), (1, .int x1_8), (2, .int x2_9), (3, .int x3_11)]) hx hb dX11_out_140 hl (by decide) rfl (fun ls hl => ?_)
        refine lv_iconst (v := (0 : Int32)) hx hb dX11_out_142 (by decide) ?_
        refine lv_istore (lv' := [(5, .int (0 : Int32)), (4, .int (1 : Int32)), (0, .ref a_this), (1, .int x1_8), (2, .int x2_9), (3, .int x3_11)]) hx hb dX11_out_143 hl (by decide) rfl (fun ls hl => ?_)
        obtain ⟨n9, h⟩ := h
        refine pl_X11_out_145 ha hr n9 _ _ _ _ _ _ _ h hw (lv_sub hl [2, 3, 4, 5, 1, 0] rfl)
  · have h := h.1 c1
    refine lv_aload_n hx hb dX11_out_10 rfl (lv_at hl 0 rfl) ?_
    refine lv_bipush (v := (-3 : Int32)) hx hb dX11_out_11 (by decide) ?_
    refine g_cvi (rm := { frames := 1, cells := 0, slots := 0, locals := 64 }) (wn := (fun (u : IA) => (w_X11_out cy a_this a_refusals a_s a_squares a_far a_queue w_image w_read w_tape w_told w_met w_best w_kept u v_s v_isImage v_taped v_at v_wrongHour v_wrongThing v_soonest v_bestSteps v_squares v_far v_queue))) (As := [.int (-3 : Int32)]) ha hw hl.1 (c_X11_refuse (cy := cy)) (cwV 1 ha.2.2.2.2.1 gX11_out_X11_refuse rfl rfl rfl hq_X11_refuse ⟨Nat.le_of_ble_eq_true rfl, Nat.le_of_ble_eq_true rfl⟩) [0, 1] [2, 3, 4, 5] [4, 5, 0, 1, 2, 3] rfl rfl rfl rfl (by decide) rfl (fun _ => rfl) rfl rfl h rfl rfl (Nat.le_of_ble_eq_true rfl) dX11_out_13 ⟨Nat.le_refl _, Nat.le_refl _⟩ (fun r52 u H locs h hw => ?_)
    obtain ⟨v_refusals_53, rfl⟩ : ∃ z, z = u := ⟨_, rfl⟩
    have hw : wd D A s.heap (w_X11_out cy a_this a_refusals a_s a_squares a_far a_queue w_image w_read w_tape w_told w_met w_best w_kept v_refusals_53 v_s v_isImage v_taped v_at v_wrongHour v_wrongThing v_soonest v_bestSteps v_squares v_far v_queue) H locs := hw
    try dsimp only at h
    exact hr _ _ (v_refusals_53, v_squares, v_far, v_queue) _ _ _ dX11_out_16 h hw
theorem hq_X11_square : yX11_square.cls = RX11 ∧ yX11_square.cls ≠ "java/lang/invoke/MethodHandle" ∧ yX11_square.cls ≠ "java/lang/invoke/VarHandle" ∧ (parseMethodDescriptor yX11_square.desc).map (fun d => d.parameters.length) = some 2 := by decide +kernel
def w_X11_square (cy : ClassId) (a_this a_refusals a_s : Nat) (w_image w_read w_tape w_told w_met w_best w_kept w_squares w_far w_queue : Value) (v_refusals : IA) (v_s : IA) (v_isImage : Int32) (v_taped : Int32) (v_at : Int32) (v_wrongHour : Int32) (v_wrongThing : Int32) (v_soonest : Int32) (v_bestSteps : Int32) : va_W := [(a_this, .inr (11, [.ref a_refusals, .ref a_s, w_image, w_read, .int v_isImage, w_tape, w_told, .int v_taped, .int v_at, w_met, .int v_wrongHour, .int v_wrongThing, w_best, w_kept, .int v_soonest, .int v_bestSteps, w_squares, w_far, w_queue])), (a_refusals, .inl (cy, 7, .inl v_refusals)), (a_s, .inl (cy, 120, .inl v_s))]
theorem hi_X11_square_11 : ∀ w ∈ u_ws RX11 TX11 19, w ∈ wsX11_square := fun _ h => List.mem_cons_of_mem _ (List.mem_append_right _ h)
def wp_X11_square_61 (K : Int32 → IA → Prop) (v_refusals : IA) : Prop := wp_X11_refuse (-1 : Int32) v_refusals (fun (r4 : Int32) (v_refusals_5 : IA) => K r4 v_refusals_5)
set_option maxHeartbeats 4000000 in
set_option maxRecDepth 100000 in
theorem pl_X11_square_61 {p : Program} {l : Launch} {e : Env} {s : State} {m : MethodId} {args : Array Value} {below : List Frame} {meth : Method} {c : Code} {A : Nat → Prop} {Q : State → Prop} {D : va_G} {cy : ClassId} {a_this a_refusals a_s : Nat} {w_image w_read w_tape w_told w_met w_best w_kept w_squares w_far w_queue : Value} {v_s : IA} {v_isImage : Int32} {v_taped : Int32} {v_at : Int32} {v_wrongHour : Int32} {v_wrongThing : Int32} {v_soonest : Int32} {v_bestSteps : Int32} {K : Int32 → IA → Prop} (ha : am p s m args c cX11_square 3 RX11 wsX11_square D cy A) (hr : rtI p l e { frames := 2, cells := 0, slots := 0, locals := 149 } s m args below meth c 0 0 Q cX11_square D A (fun (u : IA) => (w_X11_square cy a_this a_refusals a_s w_image w_read w_tape w_told w_met w_best w_kept w_squares w_far w_queue u v_s v_isImage v_taped v_at v_wrongHour v_wrongThing v_soonest v_bestSteps)) (fun (r : Int32) (u : IA) => K r u)) {v_refusals : IA} {H : Heap} {locs : List Loc} {ls : Array Slot} : wp_X11_square_61 K v_refusals → wd D A s.heap (w_X11_square cy a_this a_refusals a_s w_image w_read w_tape w_told w_met w_best w_kept w_squares w_far w_queue v_refusals v_s v_isImage v_taped v_at v_wrongHour v_wrongThing v_soonest v_bestSteps) H locs → lv_has ls 3 [(0, .ref a_this)] → W p l e { frames := 2, cells := 0, slots := 0, locals := 149 } s m args below meth c H locs 0 0 Q (F0 m 61 ls []) := by
  have hx := ha.1
  have hb := ha.2.1
  intro h hw hl
  have h : wp_X11_refuse (-1 : Int32) v_refusals (fun (r4 : Int32) (v_refusals_5 : IA) => K r4 v_refusals_5) := h
  refine lv_aload_n hx hb dX11_square_61 rfl (lv_at hl 0 rfl) ?_
  refine lv_iconst (v := (-1 : Int32)) hx hb dX11_square_62 (by decide) ?_
  refine g_cvi (rm := { frames := 1, cells := 0, slots := 0, locals := 64 }) (wn := (fun (u : IA) => (w_X11_square cy a_this a_refusals a_s w_image w_read w_tape w_told w_met w_best w_kept w_squares w_far w_queue u v_s v_isImage v_taped v_at v_wrongHour v_wrongThing v_soonest v_bestSteps))) (As := [.int (-1 : Int32)]) ha hw hl.1 (c_X11_refuse (cy := cy)) (cwV 1 ha.2.2.2.2.1 gX11_square_X11_refuse rfl rfl rfl hq_X11_refuse ⟨Nat.le_of_ble_eq_true rfl, Nat.le_of_ble_eq_true rfl⟩) [0, 1] [2] [1, 2, 0] rfl rfl rfl rfl (by decide) rfl (fun _ => rfl) rfl rfl h rfl rfl (Nat.le_of_ble_eq_true rfl) dX11_square_63 ⟨Nat.le_refl _, Nat.le_refl _⟩ (fun r4 u H locs h hw => ?_)
  obtain ⟨v_refusals_5, rfl⟩ : ∃ z, z = u := ⟨_, rfl⟩
  have hw : wd D A s.heap (w_X11_square cy a_this a_refusals a_s w_image w_read w_tape w_told w_met w_best w_kept w_squares w_far w_queue v_refusals_5 v_s v_isImage v_taped v_at v_wrongHour v_wrongThing v_soonest v_bestSteps) H locs := hw
  try dsimp only at h
  exact hr _ _ (v_refusals_5) _ _ _ dX11_square_66 h hw
def wp_X11_square (x1 : Int32) (x2 : Int32) (v_refusals : IA) (v_s : IA) (K : Int32 → IA → Prop) : Prop := ((v_s (93 : Int32).toNatClampNeg) = 0 → wp_X11_refuse (-3 : Int32) v_refusals (fun (r9 : Int32) (v_refusals_10 : IA) => K r9 v_refusals_10)) ∧ (¬ ((v_s (93 : Int32).toNatClampNeg) = 0) → wp_X11_isIn x1 (v_s (93 : Int32).toNatClampNeg) (fun (r2 : Int32) => (r2 = 0 → wp_X11_square_61 K v_refusals) ∧ (¬ (r2 = 0) → wp_X11_isIn x2 (v_s (94 : Int32).toNatClampNeg) (fun (r6 : Int32) => (r6 = 0 → wp_X11_square_61 K v_refusals) ∧ (¬ (r6 = 0) → vp_in (((95 : Int32) + ((5 : Int32) * x1)) + x2) 120 ∧ (K (v_s (((95 : Int32) + ((5 : Int32) * x1)) + x2).toNatClampNeg) v_refusals))))))
set_option maxHeartbeats 4000000 in
set_option maxRecDepth 100000 in
theorem c_X11_square {l : Launch} {D : va_G} {cy : ClassId} {a_this a_refusals a_s : Nat} {w_image w_read w_tape w_told w_met w_best w_kept w_squares w_far w_queue : Value} {v_refusals : IA} {v_s : IA} {v_isImage : Int32} {v_taped : Int32} {v_at : Int32} {v_wrongHour : Int32} {v_wrongThing : Int32} {v_soonest : Int32} {v_bestSteps : Int32} {x1 : Int32} {x2 : Int32} {K : Int32 → IA → Prop} : CtI l yX11_square wsX11_square { frames := 2, cells := 0, slots := 0, locals := 149 } 0 0 D cy [.ref a_this, .int x1, .int x2] (w_X11_square cy a_this a_refusals a_s w_image w_read w_tape w_told w_met w_best w_kept w_squares w_far w_queue v_refusals v_s v_isImage v_taped v_at v_wrongHour v_wrongThing v_soonest v_bestSteps) (wp_X11_square x1 x2 v_refusals v_s K) (fun (u : IA) => (w_X11_square cy a_this a_refusals a_s w_image w_read w_tape w_told w_met w_best w_kept w_squares w_far w_queue u v_s v_isImage v_taped v_at v_wrongHour v_wrongThing v_soonest v_bestSteps)) (fun (r : Int32) (u : IA) => K r u) := by
  refine CtI.mk (cc := cX11_square) (nL := 3) (ty := .int) (by decide) rfl (Nat.le_of_ble_eq_true rfl) (fun r u h => rfl) ?_
  intro p e s m args below meth c A Q ha hr _ h ls hl hw
  have ha : am p s m args c cX11_square 3 RX11 wsX11_square D cy A := ha
  have hx := ha.1
  have hb := ha.2.1
  have hl : lv_has ls 3 [(0, .ref a_this), (1, .int x1), (2, .int x2)] := hl
  have h : ((v_s (93 : Int32).toNatClampNeg) = 0 → wp_X11_refuse (-3 : Int32) v_refusals (fun (r9 : Int32) (v_refusals_10 : IA) => K r9 v_refusals_10)) ∧ (¬ ((v_s (93 : Int32).toNatClampNeg) = 0) → wp_X11_isIn x1 (v_s (93 : Int32).toNatClampNeg) (fun (r2 : Int32) => (r2 = 0 → wp_X11_square_61 K v_refusals) ∧ (¬ (r2 = 0) → wp_X11_isIn x2 (v_s (94 : Int32).toNatClampNeg) (fun (r6 : Int32) => (r6 = 0 → wp_X11_square_61 K v_refusals) ∧ (¬ (r6 = 0) → vp_in (((95 : Int32) + ((5 : Int32) * x1)) + x2) 120 ∧ (K (v_s (((95 : Int32) + ((5 : Int32) * x1)) + x2).toNatClampNeg) v_refusals)))))) := h
  refine lv_aload_n hx hb dX11_square_0 rfl (lv_at hl 0 rfl) ?_
  refine g_get (ci := 11) ha hw 0 1 rfl hi_X11_square_11 (by decide) (List.mem_of_getElem? (i := 1) rfl) rfl rfl dX11_square_1 ?_
  refine lv_bipush (v := (93 : Int32)) hx hb dX11_square_4 (by decide) ?_
  refine g_ald ha hw 2 rfl (vp_in_iff.mpr (by decide)) dX11_square_6 ?_
  refine lv_if_ne (tgt := 17) hx hb dX11_square_7 (by decide) (fun c1 => ?_) (fun c1 => ?_)
  · have h := h.2 c1
    refine lv_iload_n hx hb dX11_square_17 rfl (lv_at hl 1 rfl) ?_
    refine lv_aload_n hx hb dX11_square_18 rfl (lv_at hl 0 rfl) ?_
    refine g_get (ci := 11) ha hw 0 1 rfl hi_X11_square_11 (by decide) (List.mem_of_getElem? (i := 1) rfl) rfl rfl dX11_square_19 ?_
    refine lv_bipush (v := (93 : Int32)) hx hb dX11_square_22 (by decide) ?_
    refine g_ald ha hw 2 rfl (vp_in_iff.mpr (by decide)) dX11_square_24 ?_
    refine g_csi (rm := { frames := 1, cells := 0, slots := 0, locals := 64 }) (wn := (fun (u : Unit) => (w_X11_square cy a_this a_refusals a_s w_image w_read w_tape w_told w_met w_best w_kept w_squares w_far w_queue v_refusals v_s v_isImage v_taped v_at v_wrongHour v_wrongThing v_soonest v_bestSteps))) (As := [.int x1, .int (v_s (93 : Int32).toNatClampNeg)]) ha hw hl.1 (c_X11_isIn (cy := cy)) (va_cwS 2 ha.2.2.2.2.1 gX11_square_X11_isIn rfl rfl rfl hq_X11_isIn ⟨Nat.le_of_ble_eq_true rfl, Nat.le_of_ble_eq_true rfl⟩) [] [0, 1, 2] [0, 1, 2] rfl rfl rfl rfl (by decide) rfl (fun _ => rfl) h rfl rfl (Nat.le_of_ble_eq_true rfl) dX11_square_25 ⟨Nat.le_refl _, Nat.le_refl _⟩ (fun r2 u H locs h hw => ?_)
    have hw : wd D A s.heap (w_X11_square cy a_this a_refusals a_s w_image w_read w_tape w_told w_met w_best w_kept w_squares w_far w_queue v_refusals v_s v_isImage v_taped v_at v_wrongHour v_wrongThing v_soonest v_bestSteps) H locs := hw
    obtain ⟨zr2, h⟩ := h
    try dsimp only at h
    refine lv_if_eq (tgt := 61) hx hb dX11_square_28 (by decide) (fun c3 => ?_) (fun c3 => ?_)
    · have h := h.1 c3
      refine pl_X11_square_61 ha hr h hw (lv_sub hl [0] rfl)
    · have h := h.2 c3
      refine lv_iload_n hx hb dX11_square_31 rfl (lv_at hl 2 rfl) ?_
      refine lv_aload_n hx hb dX11_square_32 rfl (lv_at hl 0 rfl) ?_
      refine g_get (ci := 11) ha hw 0 1 rfl hi_X11_square_11 (by decide) (List.mem_of_getElem? (i := 1) rfl) rfl rfl dX11_square_33 ?_
      refine lv_bipush (v := (94 : Int32)) hx hb dX11_square_36 (by decide) ?_
      refine g_ald ha hw 2 rfl (vp_in_iff.mpr (by decide)) dX11_square_38 ?_
      refine g_csi (rm := { frames := 1, cells := 0, slots := 0, locals := 64 }) (wn := (fun (u : Unit) => (w_X11_square cy a_this a_refusals a_s w_image w_read w_tape w_told w_met w_best w_kept w_squares w_far w_queue v_refusals v_s v_isImage v_taped v_at v_wrongHour v_wrongThing v_soonest v_bestSteps))) (As := [.int x2, .int (v_s (94 : Int32).toNatClampNeg)]) ha hw hl.1 (c_X11_isIn (cy := cy)) (va_cwS 2 ha.2.2.2.2.1 gX11_square_X11_isIn rfl rfl rfl hq_X11_isIn ⟨Nat.le_of_ble_eq_true rfl, Nat.le_of_ble_eq_true rfl⟩) [] [0, 1, 2] [0, 1, 2] rfl rfl rfl rfl (by decide) rfl (fun _ => rfl) h rfl rfl (Nat.le_of_ble_eq_true rfl) dX11_square_39 ⟨Nat.le_refl _, Nat.le_refl _⟩ (fun r6 u H locs h hw => ?_)
      have hw : wd D A s.heap (w_X11_square cy a_this a_refusals a_s w_image w_read w_tape w_told w_met w_best w_kept w_squares w_far w_queue v_refusals v_s v_isImage v_taped v_at v_wrongHour v_wrongThing v_soonest v_bestSteps) H locs := hw
      obtain ⟨zr6, h⟩ := h
      try dsimp only at h
      refine lv_if_eq (tgt := 61) hx hb dX11_square_42 (by decide) (fun c7 => ?_) (fun c7 => ?_)
      · have h := h.1 c7
        refine pl_X11_square_61 ha hr h hw (lv_sub hl [0] rfl)
      · have h := h.2 c7
        refine lv_aload_n hx hb dX11_square_45 rfl (lv_at hl 0 rfl) ?_
        refine g_get (ci := 11) ha hw 0 1 rfl hi_X11_square_11 (by decide) (List.mem_of_getElem? (i := 1) rfl) rfl rfl dX11_square_46 ?_
        refine lv_bipush (v := (95 : Int32)) hx hb dX11_square_49 (by decide) ?_
        refine lv_iconst (v := (5 : Int32)) hx hb dX11_square_51 (by decide) ?_
        refine lv_iload_n hx hb dX11_square_52 rfl (lv_at hl 1 rfl) ?_
        refine lv_imul hx hb dX11_square_53 ?_
        refine lv_iadd hx hb dX11_square_54 ?_
        refine lv_iload_n hx hb dX11_square_55 rfl (lv_at hl 2 rfl) ?_
        refine lv_iadd hx hb dX11_square_56 ?_
        obtain ⟨z8, h⟩ := h
        refine g_ald ha hw 2 rfl z8 dX11_square_57 ?_
        refine lv_goto (tgt := 66) hx hb dX11_square_58 (by decide) ?_
        exact hr _ _ (v_refusals) _ _ _ dX11_square_66 h hw
  · have h := h.1 c1
    refine lv_aload_n hx hb dX11_square_10 rfl (lv_at hl 0 rfl) ?_
    refine lv_bipush (v := (-3 : Int32)) hx hb dX11_square_11 (by decide) ?_
    refine g_cvi (rm := { frames := 1, cells := 0, slots := 0, locals := 64 }) (wn := (fun (u : IA) => (w_X11_square cy a_this a_refusals a_s w_image w_read w_tape w_told w_met w_best w_kept w_squares w_far w_queue u v_s v_isImage v_taped v_at v_wrongHour v_wrongThing v_soonest v_bestSteps))) (As := [.int (-3 : Int32)]) ha hw hl.1 (c_X11_refuse (cy := cy)) (cwV 1 ha.2.2.2.2.1 gX11_square_X11_refuse rfl rfl rfl hq_X11_refuse ⟨Nat.le_of_ble_eq_true rfl, Nat.le_of_ble_eq_true rfl⟩) [0, 1] [2] [1, 2, 0] rfl rfl rfl rfl (by decide) rfl (fun _ => rfl) rfl rfl h rfl rfl (Nat.le_of_ble_eq_true rfl) dX11_square_13 ⟨Nat.le_refl _, Nat.le_refl _⟩ (fun r9 u H locs h hw => ?_)
    obtain ⟨v_refusals_10, rfl⟩ : ∃ z, z = u := ⟨_, rfl⟩
    have hw : wd D A s.heap (w_X11_square cy a_this a_refusals a_s w_image w_read w_tape w_told w_met w_best w_kept w_squares w_far w_queue v_refusals_10 v_s v_isImage v_taped v_at v_wrongHour v_wrongThing v_soonest v_bestSteps) H locs := hw
    try dsimp only at h
    exact hr _ _ (v_refusals_10) _ _ _ dX11_square_16 h hw
theorem hq_X11_image : yX11_image.cls = RX11 ∧ yX11_image.cls ≠ "java/lang/invoke/MethodHandle" ∧ yX11_image.cls ≠ "java/lang/invoke/VarHandle" ∧ (parseMethodDescriptor yX11_image.desc).map (fun d => d.parameters.length) = some 0 := by decide +kernel
def w_X11_image (cy : ClassId) (a_this a_s a_image : Nat) (w_refusals w_read w_tape w_told w_met w_best w_kept w_squares w_far w_queue : Value) (v_s : IA) (v_image : IA) (v_isImage : Int32) (v_taped : Int32) (v_at : Int32) (v_wrongHour : Int32) (v_wrongThing : Int32) (v_soonest : Int32) (v_bestSteps : Int32) : va_W := [(a_this, .inr (11, [w_refusals, .ref a_s, .ref a_image, w_read, .int v_isImage, w_tape, w_told, .int v_taped, .int v_at, w_met, .int v_wrongHour, .int v_wrongThing, w_best, w_kept, .int v_soonest, .int v_bestSteps, w_squares, w_far, w_queue])), (a_s, .inl (cy, 120, .inl v_s)), (a_image, .inl (cy, 120, .inl v_image))]
theorem hi_X11_image_11 : ∀ w ∈ u_ws RX11 TX11 19, w ∈ wsX11_image := fun _ h => List.mem_cons_of_mem _ (List.mem_append_right _ h)
def wp_X11_image_2 (v_s : IA) (K : Int32 → IA → Int32 → Prop) : Nat → Int32 → IA → Int32 → Prop
  | 0, _, _, _ => False
  | n + 1, x1, v_image, v_isImage => ((120 : Int32) ≤ x1 → K ((v_s (0 : Int32).toNatClampNeg) - (1 : Int32)) v_image (1 : Int32)) ∧ (¬ ((120 : Int32) ≤ x1) → vp_in x1 120 ∧ (wp_X11_image_2 v_s K n (x1 + (1 : Int32)) (upd v_image x1.toNatClampNeg (v_s x1.toNatClampNeg)) v_isImage))
set_option maxHeartbeats 4000000 in
set_option maxRecDepth 100000 in
theorem pl_X11_image_2 {p : Program} {l : Launch} {e : Env} {s : State} {m : MethodId} {args : Array Value} {below : List Frame} {meth : Method} {c : Code} {A : Nat → Prop} {Q : State → Prop} {D : va_G} {cy : ClassId} {a_this a_s a_image : Nat} {w_refusals w_read w_tape w_told w_met w_best w_kept w_squares w_far w_queue : Value} {v_s : IA} {v_taped : Int32} {v_at : Int32} {v_wrongHour : Int32} {v_wrongThing : Int32} {v_soonest : Int32} {v_bestSteps : Int32} {K : Int32 → IA → Int32 → Prop} (ha : am p s m args c cX11_image 2 RX11 wsX11_image D cy A) (hr : rtI p l e { frames := 1, cells := 0, slots := 0, locals := 64 } s m args below meth c 0 0 Q cX11_image D A (fun (u : IA × Int32) => (w_X11_image cy a_this a_s a_image w_refusals w_read w_tape w_told w_met w_best w_kept w_squares w_far w_queue v_s u.1 u.2 v_taped v_at v_wrongHour v_wrongThing v_soonest v_bestSteps)) (fun (r : Int32) (u : IA × Int32) => K r u.1 u.2)) : ∀ (n : Nat) (x1 : Int32) (v_image : IA) (v_isImage : Int32) (H : Heap) (locs : List Loc) (ls : Array Slot), wp_X11_image_2 v_s K n x1 v_image v_isImage → wd D A s.heap (w_X11_image cy a_this a_s a_image w_refusals w_read w_tape w_told w_met w_best w_kept w_squares w_far w_queue v_s v_image v_isImage v_taped v_at v_wrongHour v_wrongThing v_soonest v_bestSteps) H locs → lv_has ls 2 [(0, .ref a_this), (1, .int x1)] → W p l e { frames := 1, cells := 0, slots := 0, locals := 64 } s m args below meth c H locs 0 0 Q (F0 m 2 ls []) := by
  have hx := ha.1
  have hb := ha.2.1
  intro n
  induction n with
  | zero => exact fun _ _ _ _ _ _ h _ _ => False.elim h
  | succ n ih =>
    intro x1 v_image v_isImage H locs ls h hw hl
    have h : ((120 : Int32) ≤ x1 → K ((v_s (0 : Int32).toNatClampNeg) - (1 : Int32)) v_image (1 : Int32)) ∧ (¬ ((120 : Int32) ≤ x1) → vp_in x1 120 ∧ (wp_X11_image_2 v_s K n (x1 + (1 : Int32)) (upd v_image x1.toNatClampNeg (v_s x1.toNatClampNeg)) v_isImage)) := h
    refine lv_iload_n hx hb dX11_image_2 rfl (lv_at hl 1 rfl) ?_
    refine lv_bipush (v := (120 : Int32)) hx hb dX11_image_3 (by decide) ?_
    refine lv_icmp_ge (tgt := 26) hx hb dX11_image_5 (by decide) (fun c1 => ?_) (fun c1 => ?_)
    · have h := h.1 c1
      refine lv_aload_n hx hb dX11_image_26 rfl (lv_at hl 0 rfl) ?_
      refine lv_iconst (v := (1 : Int32)) hx hb dX11_image_27 (by decide) ?_
      refine g_put (ci := 11) (wn := (w_X11_image cy a_this a_s a_image w_refusals w_read w_tape w_told w_met w_best w_kept w_squares w_far w_queue v_s v_image (1 : Int32) v_taped v_at v_wrongHour v_wrongThing v_soonest v_bestSteps)) ha hw 0 4 rfl hi_X11_image_11 tyX11_ok nmX11 (by decide) (List.mem_of_getElem? (i := 3) rfl) rfl rfl rfl rfl (Nat.le_of_ble_eq_true rfl) rfl dX11_image_28 (fun H locs hw => ?_)
      refine lv_aload_n hx hb dX11_image_31 rfl (lv_at hl 0 rfl) ?_
      refine g_get (ci := 11) ha hw 0 1 rfl hi_X11_image_11 (by decide) (List.mem_of_getElem? (i := 2) rfl) rfl rfl dX11_image_32 ?_
      refine lv_iconst (v := (0 : Int32)) hx hb dX11_image_35 (by decide) ?_
      refine g_ald ha hw 1 rfl (vp_in_iff.mpr (by decide)) dX11_image_36 ?_
      refine lv_iconst (v := (1 : Int32)) hx hb dX11_image_37 (by decide) ?_
      refine lv_isub hx hb dX11_image_38 ?_
      exact hr _ _ (v_image, (1 : Int32)) _ _ _ dX11_image_39 h hw
    · have h := h.2 c1
      refine lv_aload_n hx hb dX11_image_8 rfl (lv_at hl 0 rfl) ?_
      refine g_get (ci := 11) ha hw 0 2 rfl hi_X11_image_11 (by decide) (List.mem_of_getElem? (i := 1) rfl) rfl rfl dX11_image_9 ?_
      refine lv_iload_n hx hb dX11_image_12 rfl (lv_at hl 1 rfl) ?_
      refine lv_aload_n hx hb dX11_image_13 rfl (lv_at hl 0 rfl) ?_
      refine g_get (ci := 11) ha hw 0 1 rfl hi_X11_image_11 (by decide) (List.mem_of_getElem? (i := 2) rfl) rfl rfl dX11_image_14 ?_
      refine lv_iload_n hx hb dX11_image_17 rfl (lv_at hl 1 rfl) ?_
      obtain ⟨z2, h⟩ := h
      refine g_ald ha hw 1 rfl z2 dX11_image_18 ?_
      refine g_ast (wn := (w_X11_image cy a_this a_s a_image w_refusals w_read w_tape w_told w_met w_best w_kept w_squares w_far w_queue v_s (upd v_image x1.toNatClampNeg (v_s x1.toNatClampNeg)) v_isImage v_taped v_at v_wrongHour v_wrongThing v_soonest v_bestSteps)) ha hw 2 rfl z2 rfl dX11_image_19 (fun H locs hw => ?_)
      refine lv_iinc (v := x1 + (1 : Int32)) (lv' := [(1, .int (x1 + (1 : Int32))), (0, .ref a_this)]) hx hb dX11_image_20 hl (k := 1) rfl rfl (by decide) rfl (fun ls hl => ?_)
      refine lv_goto (tgt := 2) hx hb dX11_image_23 (by decide) ?_
      exact ih _ _ _ _ _ _ h hw (lv_sub hl [1, 0] rfl)
def wp_X11_image (v_s : IA) (v_image : IA) (v_isImage : Int32) (K : Int32 → IA → Int32 → Prop) : Prop := ∃ n3 : Nat, wp_X11_image_2 v_s K n3 (0 : Int32) v_image v_isImage
set_option maxHeartbeats 4000000 in
set_option maxRecDepth 100000 in
theorem c_X11_image {l : Launch} {D : va_G} {cy : ClassId} {a_this a_s a_image : Nat} {w_refusals w_read w_tape w_told w_met w_best w_kept w_squares w_far w_queue : Value} {v_s : IA} {v_image : IA} {v_isImage : Int32} {v_taped : Int32} {v_at : Int32} {v_wrongHour : Int32} {v_wrongThing : Int32} {v_soonest : Int32} {v_bestSteps : Int32} {K : Int32 → IA → Int32 → Prop} : CtI l yX11_image wsX11_image { frames := 1, cells := 0, slots := 0, locals := 64 } 0 0 D cy [.ref a_this] (w_X11_image cy a_this a_s a_image w_refusals w_read w_tape w_told w_met w_best w_kept w_squares w_far w_queue v_s v_image v_isImage v_taped v_at v_wrongHour v_wrongThing v_soonest v_bestSteps) (wp_X11_image v_s v_image v_isImage K) (fun (u : IA × Int32) => (w_X11_image cy a_this a_s a_image w_refusals w_read w_tape w_told w_met w_best w_kept w_squares w_far w_queue v_s u.1 u.2 v_taped v_at v_wrongHour v_wrongThing v_soonest v_bestSteps)) (fun (r : Int32) (u : IA × Int32) => K r u.1 u.2) := by
  refine CtI.mk (cc := cX11_image) (nL := 2) (ty := .int) (by decide) rfl (Nat.le_of_ble_eq_true rfl) (fun r u h => rfl) ?_
  intro p e s m args below meth c A Q ha hr _ h ls hl hw
  have ha : am p s m args c cX11_image 2 RX11 wsX11_image D cy A := ha
  have hx := ha.1
  have hb := ha.2.1
  have hl : lv_has ls 2 [(0, .ref a_this)] := hl
  have h : ∃ n3 : Nat, wp_X11_image_2 v_s K n3 (0 : Int32) v_image v_isImage := h
  refine lv_iconst (v := (0 : Int32)) hx hb dX11_image_0 (by decide) ?_
  refine lv_istore_n (lv' := [(1, .int (0 : Int32)), (0, .ref a_this)]) hx hb dX11_image_1 rfl hl (by decide) rfl (fun ls hl => ?_)
  obtain ⟨n9, h⟩ := h
  refine pl_X11_image_2 ha hr n9 _ _ _ _ _ _ h hw (lv_sub hl [1, 0] rfl)
theorem hq_X11_on : yX11_on.cls = RX11 ∧ yX11_on.cls ≠ "java/lang/invoke/MethodHandle" ∧ yX11_on.cls ≠ "java/lang/invoke/VarHandle" ∧ (parseMethodDescriptor yX11_on.desc).map (fun d => d.parameters.length) = some 0 := by decide +kernel
def w_X11_on (cy : ClassId) (a_this a_refusals a_s a_image : Nat) (w_read w_tape w_told w_met w_best w_kept w_squares w_far w_queue : Value) (v_refusals : IA) (v_s : IA) (v_image : IA) (v_isImage : Int32) (v_taped : Int32) (v_at : Int32) (v_wrongHour : Int32) (v_wrongThing : Int32) (v_soonest : Int32) (v_bestSteps : Int32) : va_W := [(a_this, .inr (11, [.ref a_refusals, .ref a_s, .ref a_image, w_read, .int v_isImage, w_tape, w_told, .int v_taped, .int v_at, w_met, .int v_wrongHour, .int v_wrongThing, w_best, w_kept, .int v_soonest, .int v_bestSteps, w_squares, w_far, w_queue])), (a_refusals, .inl (cy, 7, .inl v_refusals)), (a_s, .inl (cy, 120, .inl v_s)), (a_image, .inl (cy, 120, .inl v_image))]
theorem hi_X11_on_11 : ∀ w ∈ u_ws RX11 TX11 19, w ∈ wsX11_on := fun _ h => List.mem_cons_of_mem _ (List.mem_append_right _ h)
def wp_X11_on_16 (v_refusals : IA) (v_image : IA) (K : Int32 → IA → IA → Prop) : Nat → Int32 → IA → Prop
  | 0, _, _ => False
  | n + 1, x1, v_s => ((120 : Int32) ≤ x1 → K ((v_s (0 : Int32).toNatClampNeg) - (1 : Int32)) v_refusals v_s) ∧ (¬ ((120 : Int32) ≤ x1) → vp_in x1 120 ∧ (wp_X11_on_16 v_refusals v_image K n (x1 + (1 : Int32)) (upd v_s x1.toNatClampNeg (v_image x1.toNatClampNeg))))
set_option maxHeartbeats 4000000 in
set_option maxRecDepth 100000 in
theorem pl_X11_on_16 {p : Program} {l : Launch} {e : Env} {s : State} {m : MethodId} {args : Array Value} {below : List Frame} {meth : Method} {c : Code} {A : Nat → Prop} {Q : State → Prop} {D : va_G} {cy : ClassId} {a_this a_refusals a_s a_image : Nat} {w_read w_tape w_told w_met w_best w_kept w_squares w_far w_queue : Value} {v_refusals : IA} {v_image : IA} {v_isImage : Int32} {v_taped : Int32} {v_at : Int32} {v_wrongHour : Int32} {v_wrongThing : Int32} {v_soonest : Int32} {v_bestSteps : Int32} {K : Int32 → IA → IA → Prop} (ha : am p s m args c cX11_on 2 RX11 wsX11_on D cy A) (hr : rtI p l e { frames := 2, cells := 0, slots := 0, locals := 149 } s m args below meth c 0 0 Q cX11_on D A (fun (u : IA × IA) => (w_X11_on cy a_this a_refusals a_s a_image w_read w_tape w_told w_met w_best w_kept w_squares w_far w_queue u.1 u.2 v_image v_isImage v_taped v_at v_wrongHour v_wrongThing v_soonest v_bestSteps)) (fun (r : Int32) (u : IA × IA) => K r u.1 u.2)) : ∀ (n : Nat) (x1 : Int32) (v_s : IA) (H : Heap) (locs : List Loc) (ls : Array Slot), wp_X11_on_16 v_refusals v_image K n x1 v_s → wd D A s.heap (w_X11_on cy a_this a_refusals a_s a_image w_read w_tape w_told w_met w_best w_kept w_squares w_far w_queue v_refusals v_s v_image v_isImage v_taped v_at v_wrongHour v_wrongThing v_soonest v_bestSteps) H locs → lv_has ls 2 [(0, .ref a_this), (1, .int x1)] → W p l e { frames := 2, cells := 0, slots := 0, locals := 149 } s m args below meth c H locs 0 0 Q (F0 m 16 ls []) := by
  have hx := ha.1
  have hb := ha.2.1
  intro n
  induction n with
  | zero => exact fun _ _ _ _ _ h _ _ => False.elim h
  | succ n ih =>
    intro x1 v_s H locs ls h hw hl
    have h : ((120 : Int32) ≤ x1 → K ((v_s (0 : Int32).toNatClampNeg) - (1 : Int32)) v_refusals v_s) ∧ (¬ ((120 : Int32) ≤ x1) → vp_in x1 120 ∧ (wp_X11_on_16 v_refusals v_image K n (x1 + (1 : Int32)) (upd v_s x1.toNatClampNeg (v_image x1.toNatClampNeg)))) := h
    refine lv_iload_n hx hb dX11_on_16 rfl (lv_at hl 1 rfl) ?_
    refine lv_bipush (v := (120 : Int32)) hx hb dX11_on_17 (by decide) ?_
    refine lv_icmp_ge (tgt := 40) hx hb dX11_on_19 (by decide) (fun c2 => ?_) (fun c2 => ?_)
    · have h := h.1 c2
      refine lv_aload_n hx hb dX11_on_40 rfl (lv_at hl 0 rfl) ?_
      refine g_get (ci := 11) ha hw 0 1 rfl hi_X11_on_11 (by decide) (List.mem_of_getElem? (i := 2) rfl) rfl rfl dX11_on_41 ?_
      refine lv_iconst (v := (0 : Int32)) hx hb dX11_on_44 (by decide) ?_
      refine g_ald ha hw 2 rfl (vp_in_iff.mpr (by decide)) dX11_on_45 ?_
      refine lv_iconst (v := (1 : Int32)) hx hb dX11_on_46 (by decide) ?_
      refine lv_isub hx hb dX11_on_47 ?_
      exact hr _ _ (v_refusals, v_s) _ _ _ dX11_on_48 h hw
    · have h := h.2 c2
      refine lv_aload_n hx hb dX11_on_22 rfl (lv_at hl 0 rfl) ?_
      refine g_get (ci := 11) ha hw 0 1 rfl hi_X11_on_11 (by decide) (List.mem_of_getElem? (i := 2) rfl) rfl rfl dX11_on_23 ?_
      refine lv_iload_n hx hb dX11_on_26 rfl (lv_at hl 1 rfl) ?_
      refine lv_aload_n hx hb dX11_on_27 rfl (lv_at hl 0 rfl) ?_
      refine g_get (ci := 11) ha hw 0 2 rfl hi_X11_on_11 (by decide) (List.mem_of_getElem? (i := 3) rfl) rfl rfl dX11_on_28 ?_
      refine lv_iload_n hx hb dX11_on_31 rfl (lv_at hl 1 rfl) ?_
      obtain ⟨z3, h⟩ := h
      refine g_ald ha hw 3 rfl z3 dX11_on_32 ?_
      refine g_ast (wn := (w_X11_on cy a_this a_refusals a_s a_image w_read w_tape w_told w_met w_best w_kept w_squares w_far w_queue v_refusals (upd v_s x1.toNatClampNeg (v_image x1.toNatClampNeg)) v_image v_isImage v_taped v_at v_wrongHour v_wrongThing v_soonest v_bestSteps)) ha hw 2 rfl z3 rfl dX11_on_33 (fun H locs hw => ?_)
      refine lv_iinc (v := x1 + (1 : Int32)) (lv' := [(1, .int (x1 + (1 : Int32))), (0, .ref a_this)]) hx hb dX11_on_34 hl (k := 1) rfl rfl (by decide) rfl (fun ls hl => ?_)
      refine lv_goto (tgt := 16) hx hb dX11_on_37 (by decide) ?_
      exact ih _ _ _ _ _ h hw (lv_sub hl [1, 0] rfl)
def wp_X11_on (v_refusals : IA) (v_s : IA) (v_image : IA) (v_isImage : Int32) (K : Int32 → IA → IA → Prop) : Prop := (v_isImage = 0 → wp_X11_refuse (-3 : Int32) v_refusals (fun (r5 : Int32) (v_refusals_6 : IA) => K r5 v_refusals_6 v_s)) ∧ (¬ (v_isImage = 0) → ∃ n4 : Nat, wp_X11_on_16 v_refusals v_image K n4 (0 : Int32) v_s)
set_option maxHeartbeats 4000000 in
set_option maxRecDepth 100000 in
theorem c_X11_on {l : Launch} {D : va_G} {cy : ClassId} {a_this a_refusals a_s a_image : Nat} {w_read w_tape w_told w_met w_best w_kept w_squares w_far w_queue : Value} {v_refusals : IA} {v_s : IA} {v_image : IA} {v_isImage : Int32} {v_taped : Int32} {v_at : Int32} {v_wrongHour : Int32} {v_wrongThing : Int32} {v_soonest : Int32} {v_bestSteps : Int32} {K : Int32 → IA → IA → Prop} : CtI l yX11_on wsX11_on { frames := 2, cells := 0, slots := 0, locals := 149 } 0 0 D cy [.ref a_this] (w_X11_on cy a_this a_refusals a_s a_image w_read w_tape w_told w_met w_best w_kept w_squares w_far w_queue v_refusals v_s v_image v_isImage v_taped v_at v_wrongHour v_wrongThing v_soonest v_bestSteps) (wp_X11_on v_refusals v_s v_image v_isImage K) (fun (u : IA × IA) => (w_X11_on cy a_this a_refusals a_s a_image w_read w_tape w_told w_met w_best w_kept w_squares w_far w_queue u.1 u.2 v_image v_isImage v_taped v_at v_wrongHour v_wrongThing v_soonest v_bestSteps)) (fun (r : Int32) (u : IA × IA) => K r u.1 u.2) := by
  refine CtI.mk (cc := cX11_on) (nL := 2) (ty := .int) (by decide) rfl (Nat.le_of_ble_eq_true rfl) (fun r u h => rfl) ?_
  intro p e s m args below meth c A Q ha hr _ h ls hl hw
  have ha : am p s m args c cX11_on 2 RX11 wsX11_on D cy A := ha
  have hx := ha.1
  have hb := ha.2.1
  have hl : lv_has ls 2 [(0, .ref a_this)] := hl
  have h : (v_isImage = 0 → wp_X11_refuse (-3 : Int32) v_refusals (fun (r5 : Int32) (v_refusals_6 : IA) => K r5 v_refusals_6 v_s)) ∧ (¬ (v_isImage = 0) → ∃ n4 : Nat, wp_X11_on_16 v_refusals v_image K n4 (0 : Int32) v_s) := h
  refine lv_aload_n hx hb dX11_on_0 rfl (lv_at hl 0 rfl) ?_
  refine g_get (ci := 11) ha hw 0 4 rfl hi_X11_on_11 (by decide) (List.mem_of_getElem? (i := 1) rfl) rfl rfl dX11_on_1 ?_
  refine lv_if_ne (tgt := 14) hx hb dX11_on_4 (by decide) (fun c1 => ?_) (fun c1 => ?_)
  · have h := h.2 c1
    refine lv_iconst (v := (0 : Int32)) hx hb dX11_on_14 (by decide) ?_
    refine lv_istore_n (lv' := [(1, .int (0 : Int32)), (0, .ref a_this)]) hx hb dX11_on_15 rfl hl (by decide) rfl (fun ls hl => ?_)
    obtain ⟨n9, h⟩ := h
    refine pl_X11_on_16 ha hr n9 _ _ _ _ _ h hw (lv_sub hl [1, 0] rfl)
  · have h := h.1 c1
    refine lv_aload_n hx hb dX11_on_7 rfl (lv_at hl 0 rfl) ?_
    refine lv_bipush (v := (-3 : Int32)) hx hb dX11_on_8 (by decide) ?_
    refine g_cvi (rm := { frames := 1, cells := 0, slots := 0, locals := 64 }) (wn := (fun (u : IA) => (w_X11_on cy a_this a_refusals a_s a_image w_read w_tape w_told w_met w_best w_kept w_squares w_far w_queue u v_s v_image v_isImage v_taped v_at v_wrongHour v_wrongThing v_soonest v_bestSteps))) (As := [.int (-3 : Int32)]) ha hw hl.1 (c_X11_refuse (cy := cy)) (cwV 1 ha.2.2.2.2.1 gX11_on_X11_refuse rfl rfl rfl hq_X11_refuse ⟨Nat.le_of_ble_eq_true rfl, Nat.le_of_ble_eq_true rfl⟩) [0, 1] [2, 3] [2, 3, 0, 1] rfl rfl rfl rfl (by decide) rfl (fun _ => rfl) rfl rfl h rfl rfl (Nat.le_of_ble_eq_true rfl) dX11_on_10 ⟨Nat.le_refl _, Nat.le_refl _⟩ (fun r5 u H locs h hw => ?_)
    obtain ⟨v_refusals_6, rfl⟩ : ∃ z, z = u := ⟨_, rfl⟩
    have hw : wd D A s.heap (w_X11_on cy a_this a_refusals a_s a_image w_read w_tape w_told w_met w_best w_kept w_squares w_far w_queue v_refusals_6 v_s v_image v_isImage v_taped v_at v_wrongHour v_wrongThing v_soonest v_bestSteps) H locs := hw
    try dsimp only at h
    exact hr _ _ (v_refusals_6, v_s) _ _ _ dX11_on_13 h hw
theorem hq_X11_count : yX11_count.cls = RX11 ∧ yX11_count.cls ≠ "java/lang/invoke/MethodHandle" ∧ yX11_count.cls ≠ "java/lang/invoke/VarHandle" ∧ (parseMethodDescriptor yX11_count.desc).map (fun d => d.parameters.length) = some 1 := by decide +kernel
def w_X11_count (cy : ClassId) (a_this a_refusals a_s : Nat) (w_image w_read w_tape w_told w_met w_best w_kept w_squares w_far w_queue : Value) (v_refusals : IA) (v_s : IA) (v_isImage : Int32) (v_taped : Int32) (v_at : Int32) (v_wrongHour : Int32) (v_wrongThing : Int32) (v_soonest : Int32) (v_bestSteps : Int32) : va_W := [(a_this, .inr (11, [.ref a_refusals, .ref a_s, w_image, w_read, .int v_isImage, w_tape, w_told, .int v_taped, .int v_at, w_met, .int v_wrongHour, .int v_wrongThing, w_best, w_kept, .int v_soonest, .int v_bestSteps, w_squares, w_far, w_queue])), (a_refusals, .inl (cy, 7, .inl v_refusals)), (a_s, .inl (cy, 120, .inl v_s))]
theorem hi_X11_count_11 : ∀ w ∈ u_ws RX11 TX11 19, w ∈ wsX11_count := fun _ h => List.mem_cons_of_mem _ (List.mem_append_right _ h)
def wp_X11_count_22 (x1 : Int32) (v_s : IA) (v_taped : Int32) (K : Int32 → Prop) : Prop := (x1 = (0 : Int32) → K ((v_s (0 : Int32).toNatClampNeg) - (1 : Int32))) ∧ (¬ x1 = (0 : Int32) → (x1 = (1 : Int32) → vp_in x1 120 ∧ (K (v_s x1.toNatClampNeg))) ∧ (¬ x1 = (1 : Int32) → (x1 = (2 : Int32) → vp_in x1 120 ∧ (K (v_s x1.toNatClampNeg))) ∧ (¬ x1 = (2 : Int32) → (x1 = (3 : Int32) → vp_in x1 120 ∧ (K (v_s x1.toNatClampNeg))) ∧ (¬ x1 = (3 : Int32) → (x1 = (4 : Int32) → wp_X11_coatsInAll v_s (fun (r10 : Int32) => K r10)) ∧ (¬ x1 = (4 : Int32) → (x1 = (5 : Int32) → K v_taped) ∧ (¬ x1 = (5 : Int32) → K (-9 : Int32)))))))
set_option maxHeartbeats 4000000 in
set_option maxRecDepth 100000 in
theorem pl_X11_count_22 {p : Program} {l : Launch} {e : Env} {s : State} {m : MethodId} {args : Array Value} {below : List Frame} {meth : Method} {c : Code} {A : Nat → Prop} {Q : State → Prop} {D : va_G} {cy : ClassId} {a_this a_refusals a_s : Nat} {w_image w_read w_tape w_told w_met w_best w_kept w_squares w_far w_queue : Value} {v_refusals : IA} {v_s : IA} {v_isImage : Int32} {v_taped : Int32} {v_at : Int32} {v_wrongHour : Int32} {v_wrongThing : Int32} {v_soonest : Int32} {v_bestSteps : Int32} {x1 : Int32} {K : Int32 → Prop} (ha : am p s m args c cX11_count 2 RX11 wsX11_count D cy A) (hr : rtI p l e { frames := 2, cells := 0, slots := 0, locals := 150 } s m args below meth c 0 0 Q cX11_count D A (fun (u : Unit) => (w_X11_count cy a_this a_refusals a_s w_image w_read w_tape w_told w_met w_best w_kept w_squares w_far w_queue v_refusals v_s v_isImage v_taped v_at v_wrongHour v_wrongThing v_soonest v_bestSteps)) (fun (r : Int32) (u : Unit) => K r)) {H : Heap} {locs : List Loc} {ls : Array Slot} : wp_X11_count_22 x1 v_s v_taped K → wd D A s.heap (w_X11_count cy a_this a_refusals a_s w_image w_read w_tape w_told w_met w_best w_kept w_squares w_far w_queue v_refusals v_s v_isImage v_taped v_at v_wrongHour v_wrongThing v_soonest v_bestSteps) H locs → lv_has ls 2 [(0, .ref a_this), (1, .int x1)] → W p l e { frames := 2, cells := 0, slots := 0, locals := 150 } s m args below meth c H locs 0 0 Q (F0 m 22 ls []) := by
  have hx := ha.1
  have hb := ha.2.1
  intro h hw hl
  have h : (x1 = (0 : Int32) → K ((v_s (0 : Int32).toNatClampNeg) - (1 : Int32))) ∧ (¬ x1 = (0 : Int32) → (x1 = (1 : Int32) → vp_in x1 120 ∧ (K (v_s x1.toNatClampNeg))) ∧ (¬ x1 = (1 : Int32) → (x1 = (2 : Int32) → vp_in x1 120 ∧ (K (v_s x1.toNatClampNeg))) ∧ (¬ x1 = (2 : Int32) → (x1 = (3 : Int32) → vp_in x1 120 ∧ (K (v_s x1.toNatClampNeg))) ∧ (¬ x1 = (3 : Int32) → (x1 = (4 : Int32) → wp_X11_coatsInAll v_s (fun (r10 : Int32) => K r10)) ∧ (¬ x1 = (4 : Int32) → (x1 = (5 : Int32) → K v_taped) ∧ (¬ x1 = (5 : Int32) → K (-9 : Int32))))))) := h
  refine lv_iload_n hx hb dX11_count_22 rfl (lv_at hl 1 rfl) ?_
  by_cases c2 : x1 = (0 : Int32)
  · have h := h.1 c2
    refine lv_tableIn (off := 37) (tgt := 60) hx hb dX11_count_23 (by rw [c2]; decide) (by rw [c2]; decide) (by rw [c2]; decide) (by decide) ?_
    refine lv_aload_n hx hb dX11_count_60 rfl (lv_at hl 0 rfl) ?_
    refine g_get (ci := 11) ha hw 0 1 rfl hi_X11_count_11 (by decide) (List.mem_of_getElem? (i := 2) rfl) rfl rfl dX11_count_61 ?_
    refine lv_iconst (v := (0 : Int32)) hx hb dX11_count_64 (by decide) ?_
    refine g_ald ha hw 2 rfl (vp_in_iff.mpr (by decide)) dX11_count_65 ?_
    refine lv_iconst (v := (1 : Int32)) hx hb dX11_count_66 (by decide) ?_
    refine lv_isub hx hb dX11_count_67 ?_
    exact hr _ _ () _ _ _ dX11_count_68 h hw
  have h := h.2 c2
  by_cases c3 : x1 = (1 : Int32)
  · have h := h.1 c3
    refine lv_tableIn (off := 46) (tgt := 69) hx hb dX11_count_23 (by rw [c3]; decide) (by rw [c3]; decide) (by rw [c3]; decide) (by decide) ?_
    refine lv_aload_n hx hb dX11_count_69 rfl (lv_at hl 0 rfl) ?_
    refine g_get (ci := 11) ha hw 0 1 rfl hi_X11_count_11 (by decide) (List.mem_of_getElem? (i := 2) rfl) rfl rfl dX11_count_70 ?_
    refine lv_iload_n hx hb dX11_count_73 rfl (lv_at hl 1 rfl) ?_
    obtain ⟨z4, h⟩ := h
    refine g_ald ha hw 2 rfl z4 dX11_count_74 ?_
    exact hr _ _ () _ _ _ dX11_count_75 h hw
  have h := h.2 c3
  by_cases c5 : x1 = (2 : Int32)
  · have h := h.1 c5
    refine lv_tableIn (off := 46) (tgt := 69) hx hb dX11_count_23 (by rw [c5]; decide) (by rw [c5]; decide) (by rw [c5]; decide) (by decide) ?_
    refine lv_aload_n hx hb dX11_count_69 rfl (lv_at hl 0 rfl) ?_
    refine g_get (ci := 11) ha hw 0 1 rfl hi_X11_count_11 (by decide) (List.mem_of_getElem? (i := 2) rfl) rfl rfl dX11_count_70 ?_
    refine lv_iload_n hx hb dX11_count_73 rfl (lv_at hl 1 rfl) ?_
    obtain ⟨z6, h⟩ := h
    refine g_ald ha hw 2 rfl z6 dX11_count_74 ?_
    exact hr _ _ () _ _ _ dX11_count_75 h hw
  have h := h.2 c5
  by_cases c7 : x1 = (3 : Int32)
  · have h := h.1 c7
    refine lv_tableIn (off := 46) (tgt := 69) hx hb dX11_count_23 (by rw [c7]; decide) (by rw [c7]; decide) (by rw [c7]; decide) (by decide) ?_
    refine lv_aload_n hx hb dX11_count_69 rfl (lv_at hl 0 rfl) ?_
    refine g_get (ci := 11) ha hw 0 1 rfl hi_X11_count_11 (by decide) (List.mem_of_getElem? (i := 2) rfl) rfl rfl dX11_count_70 ?_
    refine lv_iload_n hx hb dX11_count_73 rfl (lv_at hl 1 rfl) ?_
    obtain ⟨z8, h⟩ := h
    refine g_ald ha hw 2 rfl z8 dX11_count_74 ?_
    exact hr _ _ () _ _ _ dX11_count_75 h hw
  have h := h.2 c7
  by_cases c9 : x1 = (4 : Int32)
  · have h := h.1 c9
    refine lv_tableIn (off := 53) (tgt := 76) hx hb dX11_count_23 (by rw [c9]; decide) (by rw [c9]; decide) (by rw [c9]; decide) (by decide) ?_
    refine lv_aload_n hx hb dX11_count_76 rfl (lv_at hl 0 rfl) ?_
    refine g_cvi (rm := { frames := 1, cells := 0, slots := 0, locals := 64 }) (wn := (fun (u : Unit) => (w_X11_count cy a_this a_refusals a_s w_image w_read w_tape w_told w_met w_best w_kept w_squares w_far w_queue v_refusals v_s v_isImage v_taped v_at v_wrongHour v_wrongThing v_soonest v_bestSteps))) (As := []) ha hw hl.1 (c_X11_coatsInAll (cy := cy)) (cwV 0 ha.2.2.2.2.1 gX11_count_X11_coatsInAll rfl rfl rfl hq_X11_coatsInAll ⟨Nat.le_of_ble_eq_true rfl, Nat.le_of_ble_eq_true rfl⟩) [0, 2] [1] [1, 0, 2] rfl rfl rfl rfl (by decide) rfl (fun _ => rfl) rfl rfl h rfl rfl (Nat.le_of_ble_eq_true rfl) dX11_count_77 ⟨Nat.le_refl _, Nat.le_refl _⟩ (fun r10 u H locs h hw => ?_)
    have hw : wd D A s.heap (w_X11_count cy a_this a_refusals a_s w_image w_read w_tape w_told w_met w_best w_kept w_squares w_far w_queue v_refusals v_s v_isImage v_taped v_at v_wrongHour v_wrongThing v_soonest v_bestSteps) H locs := hw
    try dsimp only at h
    exact hr _ _ () _ _ _ dX11_count_80 h hw
  have h := h.2 c9
  by_cases c11 : x1 = (5 : Int32)
  · have h := h.1 c11
    refine lv_tableIn (off := 58) (tgt := 81) hx hb dX11_count_23 (by rw [c11]; decide) (by rw [c11]; decide) (by rw [c11]; decide) (by decide) ?_
    refine lv_aload_n hx hb dX11_count_81 rfl (lv_at hl 0 rfl) ?_
    refine g_get (ci := 11) ha hw 0 7 rfl hi_X11_count_11 (by decide) (List.mem_of_getElem? (i := 3) rfl) rfl rfl dX11_count_82 ?_
    exact hr _ _ () _ _ _ dX11_count_85 h hw
  have h := h.2 c11
  have c2T := lv_neT (a := 0) c2 (by decide)
  have c3T := lv_neT (a := 1) c3 (by decide)
  have c5T := lv_neT (a := 2) c5 (by decide)
  have c7T := lv_neT (a := 3) c7 (by decide)
  have c9T := lv_neT (a := 4) c9 (by decide)
  have c11T := lv_neT (a := 5) c11 (by decide)
  refine lv_tableOut (tgt := 86) hx hb dX11_count_23 (by omega) (by decide) ?_
  refine lv_bipush (v := (-9 : Int32)) hx hb dX11_count_86 (by decide) ?_
  exact hr _ _ () _ _ _ dX11_count_88 h hw
def wp_X11_count (x1 : Int32) (v_refusals : IA) (v_s : IA) (v_taped : Int32) (K : Int32 → Prop) : Prop := (x1 ≤ (10 : Int32) → wp_X11_count_22 x1 v_s v_taped K) ∧ (¬ (x1 ≤ (10 : Int32)) → ((17 : Int32) ≤ x1 → wp_X11_count_22 x1 v_s v_taped K) ∧ (¬ ((17 : Int32) ≤ x1) → vp_in (x1 - (10 : Int32)) 7 ∧ (K (v_refusals (x1 - (10 : Int32)).toNatClampNeg))))
set_option maxHeartbeats 4000000 in
set_option maxRecDepth 100000 in
theorem c_X11_count {l : Launch} {D : va_G} {cy : ClassId} {a_this a_refusals a_s : Nat} {w_image w_read w_tape w_told w_met w_best w_kept w_squares w_far w_queue : Value} {v_refusals : IA} {v_s : IA} {v_isImage : Int32} {v_taped : Int32} {v_at : Int32} {v_wrongHour : Int32} {v_wrongThing : Int32} {v_soonest : Int32} {v_bestSteps : Int32} {x1 : Int32} {K : Int32 → Prop} : CtI l yX11_count wsX11_count { frames := 2, cells := 0, slots := 0, locals := 150 } 0 0 D cy [.ref a_this, .int x1] (w_X11_count cy a_this a_refusals a_s w_image w_read w_tape w_told w_met w_best w_kept w_squares w_far w_queue v_refusals v_s v_isImage v_taped v_at v_wrongHour v_wrongThing v_soonest v_bestSteps) (wp_X11_count x1 v_refusals v_s v_taped K) (fun (u : Unit) => (w_X11_count cy a_this a_refusals a_s w_image w_read w_tape w_told w_met w_best w_kept w_squares w_far w_queue v_refusals v_s v_isImage v_taped v_at v_wrongHour v_wrongThing v_soonest v_bestSteps)) (fun (r : Int32) (u : Unit) => K r) := by
  refine CtI.mk (cc := cX11_count) (nL := 2) (ty := .int) (by decide) rfl (Nat.le_of_ble_eq_true rfl) (fun r u h => rfl) ?_
  intro p e s m args below meth c A Q ha hr _ h ls hl hw
  have ha : am p s m args c cX11_count 2 RX11 wsX11_count D cy A := ha
  have hx := ha.1
  have hb := ha.2.1
  have hl : lv_has ls 2 [(0, .ref a_this), (1, .int x1)] := hl
  have h : (x1 ≤ (10 : Int32) → wp_X11_count_22 x1 v_s v_taped K) ∧ (¬ (x1 ≤ (10 : Int32)) → ((17 : Int32) ≤ x1 → wp_X11_count_22 x1 v_s v_taped K) ∧ (¬ ((17 : Int32) ≤ x1) → vp_in (x1 - (10 : Int32)) 7 ∧ (K (v_refusals (x1 - (10 : Int32)).toNatClampNeg)))) := h
  refine lv_iload_n hx hb dX11_count_0 rfl (lv_at hl 1 rfl) ?_
  refine lv_bipush (v := (10 : Int32)) hx hb dX11_count_1 (by decide) ?_
  refine lv_icmp_le (tgt := 22) hx hb dX11_count_3 (by decide) (fun c1 => ?_) (fun c1 => ?_)
  · have h := h.1 c1
    refine pl_X11_count_22 ha hr h hw (lv_sub hl [0, 1] rfl)
  · have h := h.2 c1
    refine lv_iload_n hx hb dX11_count_6 rfl (lv_at hl 1 rfl) ?_
    refine lv_bipush (v := (17 : Int32)) hx hb dX11_count_7 (by decide) ?_
    refine lv_icmp_ge (tgt := 22) hx hb dX11_count_9 (by decide) (fun c12 => ?_) (fun c12 => ?_)
    · have h := h.1 c12
      refine pl_X11_count_22 ha hr h hw (lv_sub hl [0, 1] rfl)
    · have h := h.2 c12
      refine lv_aload_n hx hb dX11_count_12 rfl (lv_at hl 0 rfl) ?_
      refine g_get (ci := 11) ha hw 0 0 rfl hi_X11_count_11 (by decide) (List.mem_of_getElem? (i := 1) rfl) rfl rfl dX11_count_13 ?_
      refine lv_iload_n hx hb dX11_count_16 rfl (lv_at hl 1 rfl) ?_
      refine lv_bipush (v := (10 : Int32)) hx hb dX11_count_17 (by decide) ?_
      refine lv_isub hx hb dX11_count_19 ?_
      obtain ⟨z13, h⟩ := h
      refine g_ald ha hw 1 rfl z13 dX11_count_20 ?_
      exact hr _ _ () _ _ _ dX11_count_21 h hw
