/-! PURE PART: the class's search = dfs from a bound -/
theorem rsF_z {h p : Gr} {b : Nat → Nat} (ho : okH h) (hb : okB b) : ∀ m, m ≤ hR h → (∀ r, 1 ≤ r → r ≤ m → cO p r (pN p) ≤ hC h r) → rsF h b p m = 0 → cSm p (pN p) m = cS h m
  | 0, _, _, _ => rfl
  | m + 1, hm, hl, e => by
    rw [rsF] at e
    have i := rsF_z ho hb m (by omega) (fun r h1 h2 => hl r h1 (by omega)) (by omega)
    have e2 : (hC h (m + 1) - cO p (m + 1) (pN p)) * tk h b (m + 1) = 0 := by omega
    have ht := tk_b ho hb (r := m + 1) (by omega) hm
    have hl1 := hl (m + 1) (by omega) (by omega)
    rw [cSm, cS, i]
    rcases Nat.mul_eq_zero.mp e2 with z | z <;> omega
theorem rst_T {h p : Gr} {b : Nat → Nat} (ho : okH h) (hb : okB b) (hl : leC h p) (hp : plOK h p) (e : rst h b p = 0) : pN p = cS h (hR h) := by
  rw [← rsF_z ho hb (hR h) (Nat.le_refl _) hl e, cSm_n (pN p) (fun i hi => (hp i hi).1)]
theorem pN_T {h p : Gr} (hl : leC h p) (hp : plOK h p) : pN p ≤ cS h (hR h) := by
  have := (rsF_0 (b := fun _ => 0) (hR h) hl).1
  rw [cSm_n (pN p) (fun i hi => (hp i hi).1)] at this
  exact this
noncomputable def rmS (h : Gr) (b : Nat → Nat) (k : Nat) (G : Gr → Acc → Acc) (p : Gr) (r : Nat) (acc : Acc) : Acc := if cO p r (pN p) = hC h r then acc else match fh h b k p r with
    | none => acc
    | some t => G (ex p r t) acc
theorem rmF_s {h : Gr} {b : Nat → Nat} {k : Nat} {G : Gr → Acc → Acc} {p : Gr} {c r : Nat} {acc : Acc} : rmF h b k G p (c + 1) r acc = rmF h b k G p c (r + 1) (rmS h b k G p r acc) := rfl
theorem rmS_e {h : Gr} {b : Nat → Nat} {k : Nat} {G : Gr → Acc → Acc} {p : Gr} {r : Nat} {acc : Acc} (e : cO p r (pN p) = hC h r) : rmS h b k G p r acc = acc := if_pos e
theorem rmS_n {h : Gr} {b : Nat → Nat} {k : Nat} {G : Gr → Acc → Acc} {p : Gr} {r : Nat} {acc : Acc} (e : fh h b k p r = none) : rmS h b k G p r acc = acc := by
  unfold rmS
  rw [e]
  split <;> rfl
theorem rmS_y {h : Gr} {b : Nat → Nat} {k : Nat} {G : Gr → Acc → Acc} {p : Gr} {r t : Nat} {acc : Acc} (hc : cO p r (pN p) ≠ hC h r) (e : fh h b k p r = some t) : rmS h b k G p r acc = G (ex p r t) acc := by
  unfold rmS
  rw [if_neg hc, e]
theorem rmS_le {h : Gr} {b : Nat → Nat} {k : Nat} {G : Gr → Acc → Acc} (hG : ∀ p a, ∃ a', G p (some a) = some a' ∧ a'.1 ≤ a.1) (p : Gr) (r : Nat) (a : Nat × Gr) : ∃ a', rmS h b k G p r (some a) = some a' ∧ a'.1 ≤ a.1 := by
  by_cases hc : cO p r (pN p) = hC h r
  · exact ⟨a, rmS_e hc, Nat.le_refl _⟩
  · cases e : fh h b k p r with
    | none => exact ⟨a, rmS_n e, Nat.le_refl _⟩
    | some t =>
      obtain ⟨a', g1, g2⟩ := hG (ex p r t) a
      exact ⟨a', (rmS_y hc e).trans g1, g2⟩
theorem rmF_le {h : Gr} {b : Nat → Nat} {k : Nat} {G : Gr → Acc → Acc} (hG : ∀ p a, ∃ a', G p (some a) = some a' ∧ a'.1 ≤ a.1) (p : Gr) : ∀ (c r : Nat) (a : Nat × Gr), ∃ a', rmF h b k G p c r (some a) = some a' ∧ a'.1 ≤ a.1
  | 0, _, a => ⟨a, rfl, Nat.le_refl _⟩
  | c + 1, r, a => by
    obtain ⟨a1, g1, g2⟩ := rmS_le (h := h) (b := b) (k := k) hG p r a
    obtain ⟨a2, g3, g4⟩ := rmF_le hG p c (r + 1) a1
    exact ⟨a2, by rw [rmF_s, g1, g3], Nat.le_trans g4 g2⟩
theorem dfs_le {h : Gr} {b : Nat → Nat} {k T : Nat} : ∀ (d : Nat) (p : Gr) (a : Nat × Gr), ∃ a', dfs h b k T d p (some a) = some a' ∧ a'.1 ≤ a.1
  | 0, _, a => ⟨a, rfl, Nat.le_refl _⟩
  | d + 1, p, a => by
    rw [dfs]
    split
    · by_cases q : stH h b p < a.1
      · exact ⟨(stH h b p, p), if_pos q, Nat.le_of_lt q⟩
      · exact ⟨a, if_neg q, Nat.le_refl _⟩
    · exact rmF_le (fun p a => dfs_le d p a) p _ _ a
theorem gp_ex {h p : Gr} {b : Nat → Nat} {k r t : Nat} (ho : okH h) (hg : gp h b k p) (hr1 : 1 ≤ r) (hr2 : r ≤ hR h) (hc : cO p r (pN p) < hC h r) (hst : stH h b p ≤ t) (ht : t ≤ 60) (hf : fe h b k p r t) : gp h b k (ex p r t) := by
  have h5 := ho.1.1
  have hf2 := ((fe_g ho (by omega) hg hst).mp hf).2
  refine ⟨plOK_ex hg.1 hr1 hr2 ht, leC_ex hg.2.1 hc, fun u hu => ?_, fun i j hij hj => ?_⟩
  · rw [ex_N]
    by_cases q : t ≤ u ∧ u < t + sh h b k r
    · exact hf2.1 u q.1 q.2 hu
    · rw [fl_ex q]
      exact hg.2.2.1 u hu
  · rw [ex_N] at hj
    by_cases ej : j = pN p
    · subst ej
      rw [ex_Hn]
      by_cases ei : i = pN p
      · subst ei; rw [ex_Hn]; exact Nat.le_refl _
      · rw [ex_H ei]
        exact Nat.le_trans (gp_st hg (by omega)) hst
    · rw [ex_H ej, ex_H (by omega)]
      exact hg.2.2.2 i j hij (by omega)
theorem gp_bit {h p : Gr} {b : Nat → Nat} {k r t : Nat} (ho : okH h) (hg : gp h b k p) (hr2 : r ≤ hR h) (hst : stH h b p ≤ t) (hf : fe h b k p r t) (u : Nat) (hu : t ≤ u) : (shS h b k p u (pN p)).testBit r = false := by
  have h5 := ho.1.1
  cases e : (shS h b k p u (pN p)).testBit r with
  | false => rfl
  | true =>
    exfalso
    obtain ⟨j, h1, h2, h3, h4⟩ := (shS_tb _).mp e
    have hf1 := ((fe_g ho (by omega) hg hst).mp hf).1
    cases el : las p r (pN p) with
    | none => exact las_no _ el j h1 h2
    | some j0 =>
      have g := (hf1 j0 el).1
      have m := hg.2.2.2 j j0 (las_max _ el j h1 h2) (las_b _ el).1
      rw [h2] at h4
      unfold sh at h4
      split at h4 <;> omega
def CA (h : Gr) (any : Int32) (B : Nat) (a : Nat × Gr) (bs : Int32) (br bh : IA) (bound found : Int32) : Prop := (found = 0 ∧ bound = nI B ∧ a = (B, p00)) ∨ (found = 1 ∧ a.1 < B ∧ (any = 0 → bound = nI a.1 ∧ 1 ≤ a.1 ∧ cP bs br bh a.2 ∧ plOK h a.2 ∧ pN a.2 ≤ 8))
theorem CA.le {h : Gr} {any : Int32} {B : Nat} {a : Nat × Gr} {bs : Int32} {br bh : IA} {bound found : Int32} (hc : CA h any B a bs br bh bound found) : a.1 ≤ B := by
  rcases hc with ⟨-, -, rfl⟩ | ⟨-, z, -⟩
  · exact Nat.le_refl _
  · exact Nat.le_of_lt z
theorem CA.bd {h : Gr} {any : Int32} {B : Nat} {a : Nat × Gr} {bs : Int32} {br bh : IA} {bound found : Int32} (hc : CA h any B a bs br bh bound found) (hB : 1 ≤ B) (ho : any = 0 ∨ found = 0) : bound = nI a.1 ∧ 1 ≤ a.1 := by
  rcases hc with ⟨-, z, rfl⟩ | ⟨z1, -, z2⟩
  · exact ⟨z, hB⟩
  · rcases ho with q | q
    · exact ⟨(z2 q).1, (z2 q).2.1⟩
    · rw [z1] at q
      exact absurd q px_01
theorem goOn7_sp {h : Gr} {b : Nat → Nat} {k B : Nat} (ho : okH h) (hb : okB b) (hT6 : cS h (hR h) ≤ 6) (hT1 : 1 ≤ cS h (hR h)) (hB1 : 1 ≤ B) (hBk : B ≤ 1000) {any : Int32} {hab beside ct brd takes shuts dries aa : IA} (hwy : wOK h ct brd (2 ^ hR h)) (hbe : ∀ a, a < 6 → beside a = nI (hB h a)) (hcb : cB hab b) (hT : sT h b k takes shuts dries aa) : ∀ (d : Nat) (p : Gr) (a : Nat × Gr) (x1 x2 x3 x4 : Int32) (bs : Int32) (br bh : IA) (ts : Int32) (tr th cl lb sa : IA) (bound found : Int32) (K : Int32 → IA → IA → Int32 → IA → IA → IA → IA → IA → Int32 → Int32 → Prop), x1 = nI (pN p) → x2 = nI (whP h b k p (pN p)) → x3 = nI (stH h b p) → x4 = nI (rst h b p) → gp h b k p → cS h (hR h) - pN p < d → (any = 0 ∨ found = 0) → CA h any B a bs br bh bound found → (pN p = cS h (hR h) → stH h b p < a.1) → sV h b k p ts tr th cl lb sa → (∀ a' bs' br' bh' ts' tr' th' cl' lb' sa' bound' found', dfs h b k (cS h (hR h)) d p (some a) = some a' → CA h any B a' bs' br' bh' bound' found' → sV h b k p ts' tr' th' cl' lb' sa' → K bs' br' bh' ts' tr' th' cl' lb' sa' bound' found') → wp_X7_goOn d x1 x2 x3 x4 (nI (hR h)) beside hab ct brd bs br bh ts tr th takes shuts dries cl lb sa aa bound any found K := by
  have h5 := ho.1.1
  intro d
  induction d with
  | zero => intro p a x1 x2 x3 x4 bs br bh ts tr th cl lb sa bound found K _ _ _ _ _ hd; omega
  | succ d ih =>
    intro p a x1 x2 x3 x4 bs br bh ts tr th cl lb sa bound found K e1 e2 e3 e4 hg hd hor hca hlf hv hK
    subst e1 e2 e3 e4
    have hp := hg.1
    have hpT := pN_T hg.2.1 hp
    have hst := stH_b ho hb hp
    have hrs := rst_b (p := p) ho hb
    have loop : ∀ (c r : Nat) (a : Nat × Gr) (bs : Int32) (br bh : IA) (ts : Int32) (tr th cl lb sa : IA) (bound found : Int32), pN p ≠ cS h (hR h) → r + c = hR h + 1 → 1 ≤ r → CA h any B a bs br bh bound found → sV h b k p ts tr th cl lb sa → (∀ a' bs' br' bh' ts' tr' th' cl' lb' sa' bound' found', rmF h b k (dfs h b k (cS h (hR h)) d) p c r (some a) = some a' → CA h any B a' bs' br' bh' bound' found' → sV h b k p ts' tr' th' cl' lb' sa' → K bs' br' bh' ts' tr' th' cl' lb' sa' bound' found') → wp_X7_goOn_21 (wp_X7_goOn d) (nI (pN p)) (nI (whP h b k p (pN p))) (nI (stH h b p)) (nI (rst h b p)) (nI (hR h)) beside hab ct brd takes shuts dries aa any K (c + 1) (nI r) bs br bh ts tr th cl lb sa bound found := by
      intro c
      induction c with
      | zero =>
        intro r a bs br bh ts tr th cl lb sa bound found hne hr hr1 hca hv hK
        refine ⟨fun _ => hK a _ _ _ _ _ _ _ _ _ _ _ rfl hca hv, fun q => absurd ?_ q⟩
        rw [nI_ltI (by omega) (by omega)]
        omega
      | succ c ihc =>
        intro r a bs br bh ts tr th cl lb sa bound found hne hr hr1 hca hv hK
        have hr2 : r ≤ hR h := by omega
        have hcl := (hv.2.2.1 r hr1 hr2).1
        have hlb := (hv.2.2.1 r hr1 hr2).2
        have hlc := hg.2.1 r hr1 hr2
        have hC2 := (ho.2.1 r hr1 hr2).2
        have htk := tk_b ho hb hr1 hr2
        obtain ⟨t1, t2, t3⟩ := hT.1 r hr1 hr2
        have go : ∀ a' bs' br' bh' ts' tr' th' cl' lb' sa' bound' found', rmS h b k (dfs h b k (cS h (hR h)) d) p r (some a) = some a' → CA h any B a' bs' br' bh' bound' found' → sV h b k p ts' tr' th' cl' lb' sa' → wp_X7_goOn_21 (wp_X7_goOn d) (nI (pN p)) (nI (whP h b k p (pN p))) (nI (stH h b p)) (nI (rst h b p)) (nI (hR h)) beside hab ct brd takes shuts dries aa any K (c + 1) (nI r + (1 : Int32)) bs' br' bh' ts' tr' th' cl' lb' sa' bound' found' := by
          intro a' bs' br' bh' ts' tr' th' cl' lb' sa' bound' found' g1 g2 g3
          rw [nI_1]
          exact ihc (r + 1) a' _ _ _ _ _ _ _ _ _ _ _ hne (by omega) (by omega) g2 g3 (fun a'' bs' br' bh' ts' tr' th' cl' lb' sa' bound' found' k1 k2 k3 => hK a'' _ _ _ _ _ _ _ _ _ _ _ (by rw [rmF_s, g1]; exact k1) k2 k3)
        refine ⟨fun q => ?_, fun _ => ⟨px_in (by omega) (by decide), fun q => ?_, fun q => ?_⟩⟩
        · rw [nI_ltI (by omega) (by omega)] at q
          omega
        · rw [px_cl (by omega), hcl, ← nI_0, nI_eq (by omega) (by omega)] at q
          exact go a _ _ _ _ _ _ _ _ _ _ _ (rmS_e (by omega)) hca hv
        · have hlt : cO p r (pN p) < hC h r := by
            apply Nat.lt_of_le_of_ne hlc
            intro z
            apply q
            rw [px_cl (by omega), hcl, z, Nat.sub_self]
            rfl
          have go63 : (any = 0 ∨ found = 0) → ∀ E : Int32 → Int32 → IA → IA → Int32 → IA → IA → IA → IA → IA → Int32 → Int32 → Prop, (∀ a' bs' br' bh' ts' tr' th' cl' lb' sa' bound' found', rmS h b k (dfs h b k (cS h (hR h)) d) p r (some a) = some a' → CA h any B a' bs' br' bh' bound' found' → sV h b k p ts' tr' th' cl' lb' sa' → E (nI r + (1 : Int32)) bs' br' bh' ts' tr' th' cl' lb' sa' bound' found') → wp_X7_goOn_63 (wp_X7_goOn d) (nI (pN p)) (nI (whP h b k p (pN p))) (nI (stH h b p)) (nI (rst h b p)) (nI (hR h)) beside hab ct brd takes shuts dries aa any E K (nI r) bs br bh ts tr th cl lb sa bound found := by
            intro hor E hE
            obtain ⟨hbd, hbd1⟩ := hca.bd hB1 hor
            have hca' := hca
            have hle := hca.le
            subst hbd
            refine leastBegin_sp ho hb hg hr1 hr2 hwy hbe hcb hT hlb hv.2.2.2 hbd1 (by omega) (fun t ef g1 g2 g3 g4 => ⟨fun q => absurd q (px_n9 (by omega)), fun _ => ⟨px_in (by omega) (by decide), fun x7 e7 x8 e8 => ?_⟩⟩) (fun hn => ⟨fun _ => ?_, fun q => absurd rfl q⟩)
            · rw [px_cl (by omega)] at e7 e8
              rw [t1, nI_add] at e7
              rw [hlb] at e8
              subst e7 e8
              have re := rst_ex (b := b) (t := t) hr1 hr2 hlt
              have hgx := gp_ex ho hg hr1 hr2 hlt g1 g2 g3
              refine begin_sp ho hb (by omega) hr1 hr2 g2 hlt t2 hv (fun ts' tr' th' cl' lb' sa' hv' => placeOut7_sp ho (by omega) hbe (by omega) (hv'.2.2.2 (t + tk h b r) (by omega)) ?_)
              have eo : lbF (nd (hB h r) (shS h b k (ex p r t) (t + tk h b r) (pN (ex p r t)))) (hR h + 1) 0 = outP h b k (ex p r t) (pN p) := by
                unfold outP en
                rw [ex_Rn, ex_Hn, ex_N]
              refine ih (ex p r t) a _ _ _ _ _ _ _ _ _ _ _ _ _ _ _ _ (by rw [nI_1, ex_N]) ?_ (by rw [stH_ex]) ?_ hgx (by rw [ex_N]; omega) hor hca' (fun _ => by rw [stH_ex]; omega) hv' (fun a' bs' br' bh' ts'' tr'' th'' cl'' lb'' sa'' bound'' found'' k1 k2 k3 => take_sp ho hb hp (by omega) hr1 hr2 g2 (gp_bit ho hg hr2 g1 g3) hlt t2 k3 (fun ts3 cl3 lb3 sa3 k4 => hE a' _ _ _ _ _ _ _ _ _ _ _ ((rmS_y (by omega) ef).trans k1) k2 k4))
              · rw [eo, ex_N, whP]
                cases e : outP h b k (ex p r t) (pN p) with
                | none => exact absurd e g3.2.2.2.1
                | some x => rfl
              · rw [px_cl (by omega), t1, pk_sub (by omega)]
                congr 1
                omega
            · refine hE a _ _ _ _ _ _ _ _ _ _ _ ?_ hca' hv
              cases ef : fh h b k p r with
              | none => exact rmS_n ef
              | some t =>
                obtain ⟨f1, f2, -, -⟩ := fhF_s _ _ ef
                have re := rst_ex (b := b) (t := t) hr1 hr2 hlt
                have := hn t ef
                rw [rmS_y (by omega) ef]
                exact dfs_cut d (ex p r t) (leC_ex hg.2.1 hlt) (plOK_ex hp hr1 hr2 (by omega)) (by rw [stH_ex]; omega)
          refine ⟨fun q1 => go63 (Or.inl q1) _ go, fun q1 => ⟨fun q2 => go63 (Or.inr q2) _ go, fun q2 => ?_⟩⟩
          obtain ⟨a'', k1, k2⟩ := rmS_le (h := h) (b := b) (k := k) (fun p a => dfs_le (T := cS h (hR h)) d p a) p r a
          refine go a'' _ _ _ _ _ _ _ _ _ _ _ k1 ?_ hv
          rcases hca with ⟨z, -, -⟩ | ⟨z1, z2, -⟩
          · exact absurd z q2
          · exact Or.inr ⟨z1, by omega, fun z => absurd z q1⟩
    refine ⟨fun _ => ⟨fun q => ?_, fun q => ?_⟩, fun q => absurd ?_ q⟩
    · rw [← nI_0, nI_eq (by omega) (by omega)] at q
      have eT := rst_T ho hb hg.2.1 hp q
      have hl := hlf eT
      have hq := hp (pN p - 1) (by omega)
      have htk := tk_b ho hb hq.1.1 hq.1.2
      have hle := hca.le
      refine hK (stH h b p, p) _ _ _ _ _ _ _ _ _ _ _ ?_ (Or.inr ⟨rfl, Nat.lt_of_lt_of_le hl hle, fun _ => ⟨rfl, ?_, ⟨hv.1, fun i hi => ?_⟩, hp, show pN p ≤ 8 by omega⟩⟩) hv
      · rw [dfs, if_pos eT]
        exact if_pos hl
      · show 1 ≤ stH h b p
        unfold stH en
        rw [if_neg (by omega)]
        omega
      · have hi' : i < pN p := hi
        rw [cp_in (by omega), cp_in (by omega)]
        exact hv.2.1 i hi
    · have hne : pN p ≠ cS h (hR h) := by
        intro z
        apply q
        rw [rst_0 hg.2.1 hp z]
        rfl
      refine ⟨hR h + 1, loop (hR h) 1 a _ _ _ _ _ _ _ _ _ _ _ hne (by omega) (by omega) hca hv (fun a' bs' br' bh' ts' tr' th' cl' lb' sa' bound' found' k1 k2 k3 => hK a' _ _ _ _ _ _ _ _ _ _ _ ?_ k2 k3)⟩
      rw [dfs, if_neg hne]
      exact k1
    · rw [px_lit, nI_leI (by omega) (by omega)]
      omega
