/-! THE LAW'S START: words (written by wip/whole/gen7.py) -/
theorem nfw_0 : Cond.fieldLinkNest RX9 18 RX1 "rooms" "I" RX10 ∈ tables_1 := List.mem_of_getElem? (i := 61) (by decide +kernel)
theorem nfw_1 : Cond.fieldLinkNest RX7 72 RX1 "rooms" "I" RX10 ∈ tables_1 := List.mem_of_getElem? (i := 63) (by decide +kernel)
theorem nfw_2 : Cond.fieldLinkNest RX3 106 RX1 "rooms" "I" RX10 ∈ tables_1 := List.mem_of_getElem? (i := 64) (by decide +kernel)
theorem nfw_3 : Cond.fieldLinkNest RX10 215 RX1 "rooms" "I" RX10 ∈ tables_1 := List.mem_of_getElem? (i := 65) (by decide +kernel)
theorem nfw_4 : Cond.fieldLinkNest RX10 261 RX1 "doors" "I" RX10 ∈ tables_1 := List.mem_of_getElem? (i := 67) (by decide +kernel)
theorem nfw_5 : Cond.fieldLinkNest RX9 43 RX1 "needs" "I" RX10 ∈ tables_1 := List.mem_of_getElem? (i := 69) (by decide +kernel)
theorem nfw_6 : Cond.fieldLinkNest RX10 149 RX1 "needs" "I" RX10 ∈ tables_1 := List.mem_of_getElem? (i := 70) (by decide +kernel)
theorem nfw_7 : Cond.fieldLinkNest RX3 108 RX1 "needs" "I" RX10 ∈ tables_1 := List.mem_of_getElem? (i := 71) (by decide +kernel)
theorem nfw_8 : Cond.fieldLinkNest RX6 54 RX1 "work" "[I" RX10 ∈ tables_1 := List.mem_of_getElem? (i := 73) (by decide +kernel)
theorem nfw_9 : Cond.fieldLinkNest RX10 136 RX1 "work" "[I" RX10 ∈ tables_1 := List.mem_of_getElem? (i := 74) (by decide +kernel)
theorem nfw_10 : Cond.fieldLinkNest RX10 139 RX1 "coats" "[I" RX10 ∈ tables_1 := List.mem_of_getElem? (i := 76) (by decide +kernel)
theorem nfw_11 : Cond.fieldLinkNest RX7 112 RX1 "coats" "[I" RX10 ∈ tables_1 := List.mem_of_getElem? (i := 77) (by decide +kernel)
theorem nfw_12 : Cond.fieldLinkNest RX3 96 RX1 "coats" "[I" RX10 ∈ tables_1 := List.mem_of_getElem? (i := 78) (by decide +kernel)
theorem nfw_13 : Cond.fieldLinkNest RX9 40 RX1 "beside" "[I" RX10 ∈ tables_1 := List.mem_of_getElem? (i := 80) (by decide +kernel)
theorem nfw_14 : Cond.fieldLinkNest RX4 50 RX0 "rows" "I" RX10 ∈ tables_1 := List.mem_of_getElem? (i := 105) (by decide +kernel)
theorem nfw_15 : Cond.fieldLinkNest RX10 249 RX0 "rows" "I" RX10 ∈ tables_1 := List.mem_of_getElem? (i := 106) (by decide +kernel)
theorem nfw_16 : Cond.fieldLinkNest RX4 53 RX0 "columns" "I" RX10 ∈ tables_1 := List.mem_of_getElem? (i := 108) (by decide +kernel)
theorem nfw_17 : Cond.fieldLinkNest RX10 252 RX0 "columns" "I" RX10 ∈ tables_1 := List.mem_of_getElem? (i := 109) (by decide +kernel)
theorem nfw_18 : Cond.fieldLinkNest RX10 129 RX0 "squares" "I" RX10 ∈ tables_1 := List.mem_of_getElem? (i := 111) (by decide +kernel)
theorem nfw_19 : Cond.fieldLinkNest RX3 25 RX5 "steps" "I" RX10 ∈ tables_1 := List.mem_of_getElem? (i := 142) (by decide +kernel)
theorem nfw_20 : Cond.fieldLinkNest RX6 67 RX5 "steps" "I" RX10 ∈ tables_1 := List.mem_of_getElem? (i := 143) (by decide +kernel)
theorem nfw_21 : Cond.fieldLinkNest RX10 187 RX5 "steps" "I" RX10 ∈ tables_1 := List.mem_of_getElem? (i := 144) (by decide +kernel)
theorem nfw_22 : Cond.fieldLinkNest RX3 35 RX5 "rooms" "[I" RX10 ∈ tables_1 := List.mem_of_getElem? (i := 146) (by decide +kernel)
theorem nfw_23 : Cond.fieldLinkNest RX6 64 RX5 "rooms" "[I" RX10 ∈ tables_1 := List.mem_of_getElem? (i := 147) (by decide +kernel)
theorem nfw_24 : Cond.fieldLinkNest RX10 190 RX5 "rooms" "[I" RX10 ∈ tables_1 := List.mem_of_getElem? (i := 148) (by decide +kernel)
theorem nfw_25 : Cond.fieldLinkNest RX6 61 RX5 "hours" "[I" RX10 ∈ tables_1 := List.mem_of_getElem? (i := 150) (by decide +kernel)
theorem nfw_26 : Cond.fieldLinkNest RX3 74 RX5 "hours" "[I" RX10 ∈ tables_1 := List.mem_of_getElem? (i := 151) (by decide +kernel)
theorem nfw_27 : Cond.fieldLinkNest RX10 193 RX5 "hours" "[I" RX10 ∈ tables_1 := List.mem_of_getElem? (i := 152) (by decide +kernel)
theorem nfw_28 : Cond.fieldLinkNest RX10 60 RX6 "building" "LIntoTheCorner$House;" RX10 ∈ tables_1 := List.mem_of_getElem? (i := 163) (by decide +kernel)
theorem nfw_29 : Cond.fieldLinkNest RX7 66 RX6 "building" "LIntoTheCorner$House;" RX10 ∈ tables_1 := List.mem_of_getElem? (i := 164) (by decide +kernel)
theorem nfw_30 : Cond.fieldLinkNest RX3 46 RX6 "building" "LIntoTheCorner$House;" RX10 ∈ tables_1 := List.mem_of_getElem? (i := 165) (by decide +kernel)
theorem nfw_31 : Cond.fieldLinkNest RX3 19 RX6 "row" "LIntoTheCorner$Plan;" RX10 ∈ tables_1 := List.mem_of_getElem? (i := 167) (by decide +kernel)
theorem nfw_32 : Cond.fieldLinkNest RX10 174 RX6 "row" "LIntoTheCorner$Plan;" RX10 ∈ tables_1 := List.mem_of_getElem? (i := 168) (by decide +kernel)
theorem nfw_33 : Cond.fieldLinkNest RX10 123 RX6 "ground" "LIntoTheCorner$Floor;" RX10 ∈ tables_1 := List.mem_of_getElem? (i := 170) (by decide +kernel)
theorem nfw_34 : Cond.fieldLinkNest RX3 93 RX6 "habits" "[I" RX10 ∈ tables_1 := List.mem_of_getElem? (i := 172) (by decide +kernel)
theorem nfw_35 : Cond.fieldLinkNest RX10 162 RX6 "habits" "[I" RX10 ∈ tables_1 := List.mem_of_getElem? (i := 173) (by decide +kernel)
theorem nfw_36 : Cond.fieldLinkNest RX7 156 RX6 "habits" "[I" RX10 ∈ tables_1 := List.mem_of_getElem? (i := 174) (by decide +kernel)
theorem nfw_37 : Cond.fieldLinkNest RX10 168 RX6 "planked" "I" RX10 ∈ tables_1 := List.mem_of_getElem? (i := 176) (by decide +kernel)
theorem nfw_38 : Cond.fieldLinkNest RX10 203 RX3 "leastHour" "I" RX10 ∈ tables_1 := List.mem_of_getElem? (i := 234) (by decide +kernel)
theorem nfw_39 : Cond.fieldLinkNest RX10 206 RX3 "leastThing" "I" RX10 ∈ tables_1 := List.mem_of_getElem? (i := 236) (by decide +kernel)
theorem nfw_40 : Cond.fieldLinkNest RX10 223 RX7 "best" "LIntoTheCorner$Plan;" RX10 ∈ tables_1 := List.mem_of_getElem? (i := 257) (by decide +kernel)
theorem nmw_0 : Cond.methodLinkNest RX10 15 ⟨RX8, "<init>", "()V"⟩ RX10 ∈ tables_1 := List.mem_of_getElem? (i := 27) (by decide +kernel)
theorem nmw_1 : Cond.methodLinkNest RX10 31 ⟨RX1, "<init>", "()V"⟩ RX10 ∈ tables_1 := List.mem_of_getElem? (i := 57) (by decide +kernel)
theorem nmw_2 : Cond.methodLinkNest RX10 38 ⟨RX0, "<init>", "()V"⟩ RX10 ∈ tables_1 := List.mem_of_getElem? (i := 99) (by decide +kernel)
theorem nmw_3 : Cond.methodLinkNest RX10 45 ⟨RX6, "<init>", "()V"⟩ RX10 ∈ tables_1 := List.mem_of_getElem? (i := 129) (by decide +kernel)
theorem nmw_4 : Cond.methodLinkNest RX6 9 ⟨RX1, "<init>", "()V"⟩ RX10 ∈ tables_1 := List.mem_of_getElem? (i := 134) (by decide +kernel)
theorem nmw_5 : Cond.methodLinkNest RX6 18 ⟨RX5, "<init>", "()V"⟩ RX10 ∈ tables_1 := List.mem_of_getElem? (i := 137) (by decide +kernel)
theorem nmw_6 : Cond.methodLinkNest RX6 25 ⟨RX0, "<init>", "()V"⟩ RX10 ∈ tables_1 := List.mem_of_getElem? (i := 161) (by decide +kernel)
theorem nmw_7 : Cond.methodLinkNest RX10 55 ⟨RX9, "<init>", "()V"⟩ RX10 ∈ tables_1 := List.mem_of_getElem? (i := 190) (by decide +kernel)
theorem nmw_8 : Cond.methodLinkNest RX7 11 ⟨RX5, "<init>", "()V"⟩ RX10 ∈ tables_1 := List.mem_of_getElem? (i := 253) (by decide +kernel)
theorem nmw_9 : Cond.methodLinkNest RX10 85 ⟨RX4, "<init>", "()V"⟩ RX10 ∈ tables_1 := List.mem_of_getElem? (i := 300) (by decide +kernel)
theorem nw_start {args : Array Value} {s : State} (hts : ∀ w ∈ tables_1, w.before args s = true) : nw_all s := ⟨by unfold nfl; exact (List.forall_mem_cons.mpr ⟨va_Nw.of rfl (hts _ nfw_0), (List.forall_mem_cons.mpr ⟨va_Nw.of rfl (hts _ nfw_1), (List.forall_mem_cons.mpr ⟨va_Nw.of rfl (hts _ nfw_2), (List.forall_mem_cons.mpr ⟨va_Nw.of rfl (hts _ nfw_3), (List.forall_mem_cons.mpr ⟨va_Nw.of rfl (hts _ nfw_4), (List.forall_mem_cons.mpr ⟨va_Nw.of rfl (hts _ nfw_5), (List.forall_mem_cons.mpr ⟨va_Nw.of rfl (hts _ nfw_6), (List.forall_mem_cons.mpr ⟨va_Nw.of rfl (hts _ nfw_7), (List.forall_mem_cons.mpr ⟨va_Nw.of rfl (hts _ nfw_8), (List.forall_mem_cons.mpr ⟨va_Nw.of rfl (hts _ nfw_9), (List.forall_mem_cons.mpr ⟨va_Nw.of rfl (hts _ nfw_10), (List.forall_mem_cons.mpr ⟨va_Nw.of rfl (hts _ nfw_11), (List.forall_mem_cons.mpr ⟨va_Nw.of rfl (hts _ nfw_12), (List.forall_mem_cons.mpr ⟨va_Nw.of rfl (hts _ nfw_13), (List.forall_mem_cons.mpr ⟨va_Nw.of rfl (hts _ nfw_14), (List.forall_mem_cons.mpr ⟨va_Nw.of rfl (hts _ nfw_15), (List.forall_mem_cons.mpr ⟨va_Nw.of rfl (hts _ nfw_16), (List.forall_mem_cons.mpr ⟨va_Nw.of rfl (hts _ nfw_17), (List.forall_mem_cons.mpr ⟨va_Nw.of rfl (hts _ nfw_18), (List.forall_mem_cons.mpr ⟨va_Nw.of rfl (hts _ nfw_19), (List.forall_mem_cons.mpr ⟨va_Nw.of rfl (hts _ nfw_20), (List.forall_mem_cons.mpr ⟨va_Nw.of rfl (hts _ nfw_21), (List.forall_mem_cons.mpr ⟨va_Nw.of rfl (hts _ nfw_22), (List.forall_mem_cons.mpr ⟨va_Nw.of rfl (hts _ nfw_23), (List.forall_mem_cons.mpr ⟨va_Nw.of rfl (hts _ nfw_24), (List.forall_mem_cons.mpr ⟨va_Nw.of rfl (hts _ nfw_25), (List.forall_mem_cons.mpr ⟨va_Nw.of rfl (hts _ nfw_26), (List.forall_mem_cons.mpr ⟨va_Nw.of rfl (hts _ nfw_27), (List.forall_mem_cons.mpr ⟨va_Nw.of rfl (hts _ nfw_28), (List.forall_mem_cons.mpr ⟨va_Nw.of rfl (hts _ nfw_29), (List.forall_mem_cons.mpr ⟨va_Nw.of rfl (hts _ nfw_30), (List.forall_mem_cons.mpr ⟨va_Nw.of rfl (hts _ nfw_31), (List.forall_mem_cons.mpr ⟨va_Nw.of rfl (hts _ nfw_32), (List.forall_mem_cons.mpr ⟨va_Nw.of rfl (hts _ nfw_33), (List.forall_mem_cons.mpr ⟨va_Nw.of rfl (hts _ nfw_34), (List.forall_mem_cons.mpr ⟨va_Nw.of rfl (hts _ nfw_35), (List.forall_mem_cons.mpr ⟨va_Nw.of rfl (hts _ nfw_36), (List.forall_mem_cons.mpr ⟨va_Nw.of rfl (hts _ nfw_37), (List.forall_mem_cons.mpr ⟨va_Nw.of rfl (hts _ nfw_38), (List.forall_mem_cons.mpr ⟨va_Nw.of rfl (hts _ nfw_39), (List.forall_mem_cons.mpr ⟨va_Nw.of rfl (hts _ nfw_40), (fun _ h => absurd h List.not_mem_nil)⟩)⟩)⟩)⟩)⟩)⟩)⟩)⟩)⟩)⟩)⟩)⟩)⟩)⟩)⟩)⟩)⟩)⟩)⟩)⟩)⟩)⟩)⟩)⟩)⟩)⟩)⟩)⟩)⟩)⟩)⟩)⟩)⟩)⟩)⟩)⟩)⟩)⟩)⟩)⟩)⟩), by unfold nml; exact (List.forall_mem_cons.mpr ⟨va_Nw.of rfl (hts _ nmw_0), (List.forall_mem_cons.mpr ⟨va_Nw.of rfl (hts _ nmw_1), (List.forall_mem_cons.mpr ⟨va_Nw.of rfl (hts _ nmw_2), (List.forall_mem_cons.mpr ⟨va_Nw.of rfl (hts _ nmw_3), (List.forall_mem_cons.mpr ⟨va_Nw.of rfl (hts _ nmw_4), (List.forall_mem_cons.mpr ⟨va_Nw.of rfl (hts _ nmw_5), (List.forall_mem_cons.mpr ⟨va_Nw.of rfl (hts _ nmw_6), (List.forall_mem_cons.mpr ⟨va_Nw.of rfl (hts _ nmw_7), (List.forall_mem_cons.mpr ⟨va_Nw.of rfl (hts _ nmw_8), (List.forall_mem_cons.mpr ⟨va_Nw.of rfl (hts _ nmw_9), (fun _ h => absurd h List.not_mem_nil)⟩)⟩)⟩)⟩)⟩)⟩)⟩)⟩)⟩)⟩)⟩
theorem inw_0 : Cond.instantiable RX0 6 ∈ tables_1 := List.mem_of_getElem? (i := 98) (by decide +kernel)
theorem inw_1 : Cond.instantiable RX1 7 ∈ tables_1 := List.mem_of_getElem? (i := 56) (by decide +kernel)
theorem inw_2 : Cond.instantiable RX2 3 ∈ tables_1 := List.mem_of_getElem? (i := 40) (by decide +kernel)
theorem inw_3 : Cond.instantiable RX3 4 ∈ tables_1 := List.mem_of_getElem? (i := 226) (by decide +kernel)
theorem inw_4 : Cond.instantiable RX4 5 ∈ tables_1 := List.mem_of_getElem? (i := 299) (by decide +kernel)
theorem inw_5 : Cond.instantiable RX5 3 ∈ tables_1 := List.mem_of_getElem? (i := 136) (by decide +kernel)
theorem inw_6 : Cond.instantiable RX6 5 ∈ tables_1 := List.mem_of_getElem? (i := 128) (by decide +kernel)
theorem inw_7 : Cond.instantiable RX7 14 ∈ tables_1 := List.mem_of_getElem? (i := 247) (by decide +kernel)
theorem inw_8 : Cond.instantiable RX8 2 ∈ tables_1 := List.mem_of_getElem? (i := 26) (by decide +kernel)
theorem inw_9 : Cond.instantiable RX9 2 ∈ tables_1 := List.mem_of_getElem? (i := 189) (by decide +kernel)
theorem inw_10 : Cond.instantiable RX10 12 ∈ tables_1 := List.mem_of_getElem? (i := 18) (by decide +kernel)
theorem inw_11 : Cond.instantiable RX11 19 ∈ tables_1 := List.mem_of_getElem? (i := 797) (by decide +kernel)
theorem arw : Cond.arrayClass .int ∈ tables_1 := List.mem_of_getElem? (i := 38) (by decide +kernel)
theorem scw : Cond.initialized RX6 ∈ tables_1 := List.mem_of_getElem? (i := 6) (by decide +kernel)
theorem lsw_LEAST : Cond.laysStatic RX6 "LEAST" "[I" ∈ tables_1 := List.mem_of_getElem? (i := 507) (by decide +kernel)
theorem nsw_LEAST : Cond.fieldLinkNest RX10 156 RX6 "LEAST" "[I" RX10 ∈ tables_1 := List.mem_of_getElem? (i := 506) (by decide +kernel)
theorem lsw_MOST : Cond.laysStatic RX6 "MOST" "[I" ∈ tables_1 := List.mem_of_getElem? (i := 509) (by decide +kernel)
theorem nsw_MOST : Cond.fieldLinkNest RX10 159 RX6 "MOST" "[I" RX10 ∈ tables_1 := List.mem_of_getElem? (i := 508) (by decide +kernel)
theorem mlx_w : Cond.methodLink RL 9 yX10_init ∈ tables_1 := List.mem_of_getElem? (i := 19) (by decide +kernel)
theorem mlm_w : Cond.methodLink RL 12 yX11_init ∈ tables_1 := List.mem_of_getElem? (i := 798) (by decide +kernel)
theorem imx_w : Cond.instanceMethod yX10_init ∈ tables_1 := List.mem_of_getElem? (i := 20) (by decide +kernel)
theorem imm_w : Cond.instanceMethod yX11_init ∈ tables_1 := List.mem_of_getElem? (i := 799) (by decide +kernel)
theorem iix_w : Cond.initialized RX10 ∈ tables_1 := List.mem_of_getElem? (i := 1) (by decide +kernel)
theorem iim_w : Cond.initialized RX11 ∈ tables_1 := List.mem_of_getElem? (i := 12) (by decide +kernel)
theorem eq_int {args : Array Value} {s : State} {t : Term} {z : Int32} (h : (Cond.eq t (.int z)).before args s = true) : t.eval args s none [] s = some (.int z) := by
  cases hv : t.eval args s none [] s with
  | none => simp [Cond.before, Cond.holds, Cond.value, hv] at h
  | some w =>
    have hz : (Term.int z).eval args s none [] s = some (.int z) := rfl
    simp only [Cond.before, Cond.holds, Cond.value, hv, hz] at h
    cases w <;> simp_all
theorem len_small {args : Array Value} {s : State} {t : Term} {v : Value} (h : (Term.length t).eval args s none [] s = some v) : ∃ a cell, t.eval args s none [] s = some (.ref a) ∧ s.arrayAt? a = some cell ∧ v = .int cell.slots.size.toInt32 ∧ cell.slots.size < 2147483648 := by
  simp only [Term.eval, Option.bind_eq_bind] at h
  cases ht : t.eval args s none [] s with
  | none => simp [ht] at h
  | some x =>
    cases x <;> simp [ht] at h
    case ref a =>
      obtain ⟨cell, hcell, h⟩ := Option.bind_eq_some_iff.mp h
      by_cases hn : cell.slots.size < 2147483648
      · rw [if_pos hn] at h; cases h; exact ⟨a, cell, rfl, hcell, rfl, hn⟩
      · rw [if_neg hn] at h; cases h
/-- a static row of four ints -/
theorem row4 {args : Array Value} {s : State} {t : Term} {v : Nat → Int32} (harr : (Cond.arrayOf t .int).before args s = true) (hlen : (Cond.eq (.length t) (.int 4)).before args s = true) (he : ∀ j, j < 4 → (Cond.eq (.elem t (.int (nI j))) (.int (v j))).before args s = true) : ∃ a, t.eval args s none [] s = some (.ref a) ∧ va_X a 4 v s s.heap ∧ a < s.heap.size := by
  obtain ⟨a, cell, h1, h2, h3, h4⟩ := len_small (eq_int hlen)
  obtain ⟨hc, -, -, -⟩ := State.arrayAt?_spec h2
  obtain ⟨ho, hu⟩ := Cond.arrayOf_spec harr h1 hc
  have h3' : nI 4 = nI cell.slots.size := by
    have := h3
    simp only [Value.int.injEq] at this
    exact this
  have hsz : cell.slots.size = 4 := ((nI_eq (by decide) (by omega)).mp h3').symm
  refine ⟨a, h1, ⟨cell, hc, ho, hu, hsz, fun j hj => ?_⟩, (Array.getElem?_eq_some_iff.mp hc).1⟩
  obtain ⟨a', j', cell', e1, e2, e3, -, e5⟩ := Term.elem_spec (eq_int (he j hj))
  rw [h1] at e1
  cases e1
  rw [h2] at e3
  cases e3
  have e2' : (some (.int (nI j)) : Option Value) = some (.int j') := e2
  cases e2'
  rw [px_cl (by omega)] at e5
  exact e5
theorem st_LEAST {b : Nat} {s : State} (hgv : (Jvm.Cond.and given_1 narrow_1).before #[Value.ref b] s = true) : ∃ a, (Term.static RX6 "LEAST" "[I").eval #[Value.ref b] s none [] s = some (.ref a) ∧ va_X a 4 (fun j => nI (loT j)) s s.heap ∧ a < s.heap.size := by
  have hs := flat_of_before _ hgv
  refine row4 (hs (Cond.arrayOf (.static "IntoTheCorner$Scene" "LEAST" "[I") .int) (by decide +kernel)) (hs (Cond.eq (.length (.static "IntoTheCorner$Scene" "LEAST" "[I")) (.int 4)) (by decide +kernel)) (fun j hj => ?_)
  rcases (show j = 0 ∨ j = 1 ∨ j = 2 ∨ j = 3 by omega) with rfl | rfl | rfl | rfl
  · exact hs (Cond.eq (.elem (.static "IntoTheCorner$Scene" "LEAST" "[I") (.int 0)) (.int 1)) (by decide +kernel)
  · exact hs (Cond.eq (.elem (.static "IntoTheCorner$Scene" "LEAST" "[I") (.int 1)) (.int 0)) (by decide +kernel)
  · exact hs (Cond.eq (.elem (.static "IntoTheCorner$Scene" "LEAST" "[I") (.int 2)) (.int 1)) (by decide +kernel)
  · exact hs (Cond.eq (.elem (.static "IntoTheCorner$Scene" "LEAST" "[I") (.int 3)) (.int 1)) (by decide +kernel)
theorem st_MOST {b : Nat} {s : State} (hgv : (Jvm.Cond.and given_1 narrow_1).before #[Value.ref b] s = true) : ∃ a, (Term.static RX6 "MOST" "[I").eval #[Value.ref b] s none [] s = some (.ref a) ∧ va_X a 4 (fun j => nI (hiT j)) s s.heap ∧ a < s.heap.size := by
  have hs := flat_of_before _ hgv
  refine row4 (hs (Cond.arrayOf (.static "IntoTheCorner$Scene" "MOST" "[I") .int) (by decide +kernel)) (hs (Cond.eq (.length (.static "IntoTheCorner$Scene" "MOST" "[I")) (.int 4)) (by decide +kernel)) (fun j hj => ?_)
  rcases (show j = 0 ∨ j = 1 ∨ j = 2 ∨ j = 3 by omega) with rfl | rfl | rfl | rfl
  · exact hs (Cond.eq (.elem (.static "IntoTheCorner$Scene" "MOST" "[I") (.int 0)) (.int 24)) (by decide +kernel)
  · exact hs (Cond.eq (.elem (.static "IntoTheCorner$Scene" "MOST" "[I") (.int 1)) (.int 24)) (by decide +kernel)
  · exact hs (Cond.eq (.elem (.static "IntoTheCorner$Scene" "MOST" "[I") (.int 2)) (.int 99)) (by decide +kernel)
  · exact hs (Cond.eq (.elem (.static "IntoTheCorner$Scene" "MOST" "[I") (.int 3)) (.int 3)) (by decide +kernel)
theorem stq_start {b : Nat} {s : State} (hts : ∀ w ∈ tables_1, w.before #[Value.ref b] s = true) (hgv : (Jvm.Cond.and given_1 narrow_1).before #[Value.ref b] s = true) : ∃ b1 b2, stq (fun q => s.heap.size ≤ q) b1 b2 (fun j => nI (loT j)) (fun j => nI (hiT j)) s s.heap := by
  obtain ⟨a1, h1, h2, h3⟩ := st_LEAST hgv
  obtain ⟨a2, g1, g2, g3⟩ := st_MOST hgv
  exact ⟨a1, a2, ⟨va_Zref (hts _ lsw_LEAST) (hts _ scw) h1 (fun a ha => Nat.not_le.mpr ha), h2, h3, Nat.not_le.mpr h3, va_Nw.of rfl (hts _ nsw_LEAST)⟩, va_Zref (hts _ lsw_MOST) (hts _ scw) g1 (fun a ha => Nat.not_le.mpr ha), g2, g3, Nat.not_le.mpr g3, va_Nw.of rfl (hts _ nsw_MOST)⟩
theorem cls_start {args : Array Value} {s : State} (hts : ∀ w ∈ tables_1, w.before args s = true) (hws : ∀ w ∈ wsL_law, w.before args s = true) : ∃ D : va_G, ∀ (k : Nat) (q : vw_C), vwCl[k]? = some q → u_Kn s q.1 q.2.1 q.2.2 (D.1 k) (D.2 k) := by
  obtain ⟨c0, i0, k0⟩ := u_known (C := RX0) (T := TX0) (N := 6) (n := 6) hws (fun w h => (ggL_law_X10_init w (hi_X10_init_0 w h)).1) (hts _ inw_0)
  obtain ⟨c1, i1, k1⟩ := u_known (C := RX1) (T := TX1) (N := 7) (n := 7) hws (fun w h => (ggL_law_X10_init w (hi_X10_init_1 w h)).1) (hts _ inw_1)
  obtain ⟨c2, i2, k2⟩ := u_known (C := RX2) (T := TX2) (N := 3) (n := 3) hws (fun w h => (ggL_law_X10_init w (hi_X10_init_2 w h)).1) (hts _ inw_2)
  obtain ⟨c3, i3, k3⟩ := u_known (C := RX3) (T := TX3) (N := 4) (n := 4) hws (fun w h => (ggL_law_X10_init w (hi_X10_init_3 w h)).1) (hts _ inw_3)
  obtain ⟨c4, i4, k4⟩ := u_known (C := RX4) (T := TX4) (N := 5) (n := 5) hws (fun w h => (ggL_law_X10_init w (hi_X10_init_4 w h)).1) (hts _ inw_4)
  obtain ⟨c5, i5, k5⟩ := u_known (C := RX5) (T := TX5) (N := 3) (n := 3) hws (fun w h => (ggL_law_X10_init w (ggX10_init_X6_init w (hi_X6_init_5 w h)).1).1) (hts _ inw_5)
  obtain ⟨c6, i6, k6⟩ := u_known (C := RX6) (T := TX6) (N := 5) (n := 5) hws (fun w h => (ggL_law_X10_init w (hi_X10_init_6 w h)).1) (hts _ inw_6)
  obtain ⟨c7, i7, k7⟩ := u_known (C := RX7) (T := TX7) (N := 14) (n := 14) hws (fun w h => (ggL_law_X10_init w (hi_X10_init_7 w h)).1) (hts _ inw_7)
  obtain ⟨c8, i8, k8⟩ := u_known (C := RX8) (T := TX8) (N := 2) (n := 2) hws (fun w h => (ggL_law_X10_init w (hi_X10_init_8 w h)).1) (hts _ inw_8)
  obtain ⟨c9, i9, k9⟩ := u_known (C := RX9) (T := TX9) (N := 2) (n := 2) hws (fun w h => (ggL_law_X10_init w (hi_X10_init_9 w h)).1) (hts _ inw_9)
  obtain ⟨c10, i10, k10⟩ := u_known (C := RX10) (T := TX10) (N := 12) (n := 12) hws (fun w h => (ggL_law_X10_init w (hi_X10_init_10 w h)).1) (hts _ inw_10)
  obtain ⟨c11, i11, k11⟩ := u_known (C := RX11) (T := TX11) (N := 19) (n := 19) hws (fun w h => (ggL_law_X11_init w (hi_X11_init_11 w h)).1) (hts _ inw_11)
  refine ⟨(fun k => match k with | 0 => c0 | 1 => c1 | 2 => c2 | 3 => c3 | 4 => c4 | 5 => c5 | 6 => c6 | 7 => c7 | 8 => c8 | 9 => c9 | 10 => c10 | _ => c11, fun k => match k with | 0 => i0 | 1 => i1 | 2 => i2 | 3 => i3 | 4 => i4 | 5 => i5 | 6 => i6 | 7 => i7 | 8 => i8 | 9 => i9 | 10 => i10 | _ => i11), fun k q hq => ?_⟩
  match k, hq with
  | 0, hq => cases hq; exact k0
  | 1, hq => cases hq; exact k1
  | 2, hq => cases hq; exact k2
  | 3, hq => cases hq; exact k3
  | 4, hq => cases hq; exact k4
  | 5, hq => cases hq; exact k5
  | 6, hq => cases hq; exact k6
  | 7, hq => cases hq; exact k7
  | 8, hq => cases hq; exact k8
  | 9, hq => cases hq; exact k9
  | 10, hq => cases hq; exact k10
  | 11, hq => cases hq; exact k11
  | k + 12, hq => simp [vwCl] at hq
theorem arr_start {args : Array Value} {s : State} (hts : ∀ w ∈ tables_1, w.before args s = true) : ∃ cy : ClassId, ArrOfT s cy .int ∧ va_RA s cy .int := by
  obtain ⟨cA, kA, comp, h1, h2, h3⟩ := Cond.arrayClass_spec (hts _ arw)
  exact ⟨cA, fun n z => ⟨fun k h => (by cases h), kA, h2, comp, h3⟩, h1⟩
