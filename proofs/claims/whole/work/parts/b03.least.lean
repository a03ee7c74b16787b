/-! ===== the reference: its least machine ===== -/
section RLeastC
variable {G : GG} {M : Mem} {m N f : Nat} {st : Nat → Nat → Nat} {mk : Nat → Nat} {Q : Option Value → Mem → Prop}
/-- the least machine, as the reference holds it -/
def LsI (M : Mem) (m N f : Nat) (st : Nat → Nat → Nat) (mk : Nat → Nat) (n : Nat) (st' : Nat → Nat → Nat) (mr' : Nat → Nat) : Prop :=
  x_i M m 29 = nI n ∧ n ≤ N ∧ ∃ (sg cl : Nat → Nat), (∀ i, i < n → x_i M (m + 25) i = nI (sg i) ∧ sg i < N ∧ mr' i = mk (sg i)) ∧ (∀ i, i < N → x_i M (m + 22) i = nI (cl i) ∧ cl i < 8400) ∧ ∀ i, i < n → ∀ k, k < f → x_i M (m + 26) (cl (st (sg i) k)) = nI (st' i k)
theorem LsI.fr {M' : Mem} {n : Nat} {st' : Nat → Nat → Nat} {mr' : Nat → Nat} {F A : List Nat} (h : LsI M m N f st mk n st' mr') (g : FrM M M' m F A) (h1 : 29 ∉ F) (h2 : 22 ∉ A ∧ 25 ∉ A ∧ 26 ∉ A) : LsI M' m N f st mk n st' mr' := by
  unfold LsI
  rw [g.fm h1, g.i (by decide) h2.1, g.i (by decide) h2.2.1, g.i (by decide) h2.2.2]
  exact h
theorem ur_stepOf (d : Nat) (hs : ReS M m) (h : RaI M m N f st mk) {n : Nat} {st' : Nat → Nat → Nat} {mr' : Nat → Nat} (hl : LsI M m N f st mk n st' mr') {i k : Nat} (hi : i < n) (hk : k < f) (hQ : Q (some (.int (nI (st' i k)))) M) : Call G (d + 1) 0 0 mX12_stepOf [.ref m, .int (nI i), .int (nI k)] M Q := by
  obtain ⟨r1, r2, r3, r4, r5, r6, r7, r8⟩ := h
  obtain ⟨l1, l2, sg, cl, l3, l4, l5⟩ := hl
  obtain ⟨a1, a2, a3⟩ := l3 i hi
  obtain ⟨b1, b2⟩ := r3 _ a2 k hk
  obtain ⟨c1, c2⟩ := l4 _ b2
  have e1 : (27 : Int32) * nI (sg i) + nI k = nI (27 * sg i + k) := by rw [show (27 : Int32) = nI 27 from rfl, pk_mul, nI_add]
  refine eX12_stepOf m _ _ ⟨hs.1, m + 26, hs.r26, m + 22, hs.r22, m + 20, hs.r20, m + 25, hs.r25, by rw [hs.h25], by rw [hs.h25]; exact vp_in_nI (show i < 8400 by omega) (by omega), by rw [hs.h20], ?_, by rw [hs.h22], ?_, by rw [hs.h26], ?_, ?_⟩
  · rw [nI_clamp (by omega), a1, e1, hs.h20]; exact vp_in_nI (show 27 * sg i + k < 226800 by omega) (by omega)
  · rw [nI_clamp (by omega), a1, e1, nI_clamp (by omega), b1, hs.h22]; exact vp_in_nI (show st (sg i) k < 8400 by omega) (by omega)
  · rw [nI_clamp (by omega), a1, e1, nI_clamp (by omega), b1, nI_clamp (by omega), c1, hs.h26]; exact vp_in_nI c2 (by omega)
  · rw [nI_clamp (by omega), a1, e1, nI_clamp (by omega), b1, nI_clamp (by omega), c1, nI_clamp (by omega), l5 i hi k hk]; exact hQ
def RlI (M : Mem) (m N : Nat) (cl : Nat → Nat) (K : List Nat) : Prop := x_i M m 29 = nI K.length ∧ Tab M (m + 26) N K ∧ ∀ t, t < K.length → ∃ x, x_i M (m + 25) t = nI x ∧ x < N ∧ cl x = K.getD t 0
theorem ur_least (d : Nat) (hs : ReS M m) (h : RaI M m N f st mk)
    (hQ : ∀ M' n st' mr', FrM M M' m [29] [22, 23, 24, 25, 26] → LsI M' m N f st mk n st' mr' → Can f n st' mr' (fun w => mk (rn st 0 w)) → Q none M') : Call G (d + 4) 0 0 mX12_least [.ref m] M Q := by
  have hR := h
  obtain ⟨r1, r2, r3, r4, r5, r6, r7, r8⟩ := h
  have hcl : ∀ i, i < N → ∀ d, d < f → st i d < N := fun i hi d hd => (r3 i hi d hd).2
  refine eX12_least m ⟨hs.1, ur_apart d hs hR (fun M1 cl g g1 hg hC hN hS => ⟨rfl, ?_⟩)⟩
  have hgN : g ≤ N := onto_le hN.2
  have hKc : ∀ c, exV (cdl N st cl) f (cl 0) c → ∀ x ∈ ex (cdl N st cl) f (cl 0) c, x < g := fun c hV x hx => by
    obtain ⟨u, hu, e⟩ := ex_reach r7 c hV x hx
    rw [← e, cdl_word hcl hS u 0 hu r5]
    exact hN.1 _ (rn_lt hcl u 0 hu r5)
  have hKl : ∀ c, exV (cdl N st cl) f (cl 0) c → (ex (cdl N st cl) f (cl 0) c).length ≤ g := fun c hV => nd_len _ _ (ex_nd c) (hKc c hV)
  have fr0 : ∀ {M' : Mem}, FrM M1 M' m [29] [25, 26] → ReS M' m ∧ RaI M' m N f st mk ∧ x_i M' m 25 = nI N ∧ x_i M' m 26 = nI f ∧ ∀ i, i < N → x_i M' (m + 22) i = nI (cl i) ∧ cl i < g := by
    intro M' q
    have q' : FrM M M' m [29] [22, 23, 24, 25, 26] := (g1.wk (by decide) (by decide)).tr q (by decide) (by decide)
    exact ⟨q'.S hs, hR.fr q' (by decide) (by decide), by rw [q'.fm (by decide)]; exact r1, by rw [q'.fm (by decide)]; exact r2, fun i hi => ⟨by rw [q.i (by decide) (by decide)]; exact (hg i hi).1, hN.1 i hi⟩⟩
  have inner : ∀ (i : Nat), (∀ M' z z', FrM M1 M' m [29] [25, 26] → RlI M' m N cl (ex (cdl N st cl) f (cl 0) (i * f + f)) → exV (cdl N st cl) f (cl 0) (i * f + f) → i < (ex (cdl N st cl) f (cl 0) (i * f + f)).length → c1 z = true → c1 z' = true → LX12_least_53 G (d + 3) 0 0 m (nI (i + 1)) z z' M' Q) →
      ∀ (k j : Nat), j + k = f → ∀ M', FrM M1 M' m [29] [25, 26] → RlI M' m N cl (ex (cdl N st cl) f (cl 0) (i * f + j)) → exV (cdl N st cl) f (cl 0) (i * f + j) → i < (ex (cdl N st cl) f (cl 0) (i * f + j)).length → ∀ z, c1 z = true → LX12_least_63 G (d + 3) 0 0 m (nI i) (nI j) z M' Q := by
    intro i hout k
    induction k with
    | zero =>
      intro j hj M' hfr hI hV hi z hz
      have e : j = f := by omega
      subst e
      refine vX12_least_63 _ _ _ _ hz ⟨(fr0 hfr).1.1, fun _ => ?_, fun c => absurd (by rw [(fr0 hfr).2.2.2.1]; exact nI_le (Nat.le_refl j) (by omega)) c⟩
      rw [nI_1]
      exact hout M' _ _ hfr hI hV hi rfl hz
    | succ k ih =>
      intro j hj M' hfr hI hV hi z hz
      have hjf : j < f := by omega
      obtain ⟨q1, q2, q3, q4, q5⟩ := fr0 hfr
      obtain ⟨n1, n2, n3⟩ := hI
      have hl := hKl _ hV
      obtain ⟨x, x1, x2, x3⟩ := n3 i hi
      obtain ⟨y1, y2⟩ := q2.2.2.1 x x2 j hjf
      obtain ⟨w1, w2⟩ := q5 _ y2
      have e1 : (i * f + j) / f = i := by rw [Nat.mul_comm, Nat.mul_add_div r7, Nat.div_eq_of_lt hjf]; rfl
      have e2 : (i * f + j) % f = j := by rw [Nat.mul_comm, Nat.mul_add_mod]; exact Nat.mod_eq_of_lt hjf
      have hdl : cdl N st cl ((ex (cdl N st cl) f (cl 0) (i * f + j)).getD ((i * f + j) / f) 0) ((i * f + j) % f) = cl (st x j) := by
        rw [e1, e2, ← x3, cdl_eq hS x2 hjf]
      have hV1 : exV (cdl N st cl) f (cl 0) (i * f + j + 1) := fun p hp => by
        by_cases e : p = i * f + j
        · subst e; rw [e1]; exact hi
        · exact hV p (by omega)
      have hl1 := hKl _ hV1
      have hex : ex (cdl N st cl) f (cl 0) (i * f + j + 1) = ins (ex (cdl N st cl) f (cl 0) (i * f + j)) (cl (st x j)) := by rw [← hdl]; rfl
      have hi1 : i < (ex (cdl N st cl) f (cl 0) (i * f + j + 1)).length := Nat.lt_of_lt_of_le hi (ex_le _ 1)
      have e27 : (27 : Int32) * nI x + nI j = nI (27 * x + j) := by rw [show (27 : Int32) = nI 27 from rfl, pk_mul, nI_add]
      have hte := n2 _ (show cl (st x j) < N by omega)
      refine vX12_least_63 _ _ _ _ hz ⟨q1.1, fun c => absurd (by rw [q4] at c; exact c) (nI_ge (a := j) (b := f) (by omega) (by omega)), fun _ => ⟨m + 20, q1.r20, m + 25, q1.r25, by rw [q1.h25], by rw [q1.h25]; exact vp_in_nI (show i < 8400 by omega) (by omega), by rw [q1.h20], ?_, m + 26, q1.r26, m + 22, q1.r22, by rw [q1.h22], ?_, by rw [q1.h26], ?_, ?_⟩⟩
      · rw [nI_clamp (by omega), x1, e27, q1.h20]; exact vp_in_nI (show 27 * x + j < 226800 by omega) (by omega)
      · rw [nI_clamp (by omega), x1, e27, nI_clamp (by omega), y1, q1.h22]; exact vp_in_nI (show st x j < 8400 by omega) (by omega)
      · rw [nI_clamp (by omega), x1, e27, nI_clamp (by omega), y1, nI_clamp (by omega), w1, q1.h26]; exact vp_in_nI (show cl (st x j) < 8400 by omega) (by omega)
      · rw [nI_clamp (by omega), x1, e27, nI_clamp (by omega), y1, nI_clamp (by omega), w1, nI_clamp (by omega), hte]
        by_cases c : cl (st x j) ∈ ex (cdl N st cl) f (cl 0) (i * f + j)
        · have hlt := idx_lt c
          have ee : ex (cdl N st cl) f (cl 0) (i * f + j + 1) = ex (cdl N st cl) f (cl 0) (i * f + j) := by rw [hex]; exact if_pos c
          rw [if_pos c]
          refine ⟨fun _ => ?_, fun q => absurd q (nI_m1 (by omega))⟩
          rw [nI_1]
          exact ih (j + 1) (by omega) M' hfr (by rw [← Nat.add_assoc, ee]; exact ⟨n1, n2, n3⟩) (by rw [← Nat.add_assoc]; exact hV1) (by rw [← Nat.add_assoc]; exact hi1) _ rfl
        · have ee : ex (cdl N st cl) f (cl 0) (i * f + j + 1) = ex (cdl N st cl) f (cl 0) (i * f + j) ++ [cl (st x j)] := by rw [hex]; exact if_neg c
          have elen : (ex (cdl N st cl) f (cl 0) (i * f + j + 1)).length = (ex (cdl N st cl) f (cl 0) (i * f + j)).length + 1 := by rw [ee]; simp
          rw [if_neg c]
          refine ⟨fun q => absurd rfl q, fun _ => ?_⟩
          rintro M2 rfl
          rw [n1, xm_mo (by decide), n1]
          refine ⟨by rw [q1.h25]; exact vp_in_nI (show (ex (cdl N st cl) f (cl 0) (i * f + j)).length < 8400 by omega) (by omega), ?_⟩
          rintro M3 rfl M4 rfl
          rw [nI_clamp (by omega), xm_mo (by decide), xm_mo (by decide), n1, nI_1, nI_1]
          have h1 : FrM M' (x_si M' (m + 26) (cl (st x j)) (nI (ex (cdl N st cl) f (cl 0) (i * f + j)).length)) m [29] [25, 26] := FrM.rf.si (by decide) (by decide)
          have h2 : FrM M' (x_si (x_si M' (m + 26) (cl (st x j)) (nI (ex (cdl N st cl) f (cl 0) (i * f + j)).length)) (m + 25) (ex (cdl N st cl) f (cl 0) (i * f + j)).length (nI (st x j))) m [29] [25, 26] := h1.si (by decide) (by decide)
          have h3 := h2.sm (k := 29) (v := nI ((ex (cdl N st cl) f (cl 0) (i * f + j)).length + 1)) (by decide)
          refine ih (j + 1) (by omega) _ (hfr.tr h3 (by decide) (by decide)) (by
            rw [← Nat.add_assoc]
            refine ⟨by rw [xi_eq, elen], ?_, fun t ht => ?_⟩
            · rw [hex]
              exact (n2.add c).to (by funext p; rw [xm_om (by decide), xm_oo (by decide)])
            · rw [elen] at ht
              by_cases et : t = (ex (cdl N st cl) f (cl 0) (i * f + j)).length
              · refine ⟨st x j, by rw [xm_om (by decide), et, xi_eq], y2, ?_⟩
                rw [et, ee]; simp
              · obtain ⟨y, g1, g2, g3⟩ := n3 t (by omega)
                refine ⟨y, by rw [xm_om (by decide), xi_nk et, xm_oo (by decide)]; exact g1, g2, ?_⟩
                rw [g3, ee, List.getD_eq_getElem?_getD, List.getD_eq_getElem?_getD, List.getElem?_append_left (by omega)]) (by rw [← Nat.add_assoc]; exact hV1) (by rw [← Nat.add_assoc]; exact hi1) _ rfl
  have outer : ∀ (k i : Nat), i + k = N → ∀ M', FrM M1 M' m [29] [25, 26] → RlI M' m N cl (ex (cdl N st cl) f (cl 0) (i * f)) → exV (cdl N st cl) f (cl 0) (i * f) → i ≤ (ex (cdl N st cl) f (cl 0) (i * f)).length → ∀ z z', c1 z = true → c1 z' = true → LX12_least_53 G (d + 3) 0 0 m (nI i) z z' M' Q := by
    have done : ∀ i M', FrM M1 M' m [29] [25, 26] → RlI M' m N cl (ex (cdl N st cl) f (cl 0) (i * f)) → exV (cdl N st cl) f (cl 0) (i * f) → (ex (cdl N st cl) f (cl 0) (i * f)).length = i → Q none M' := by
      intro i M' hfr hI hV el
      obtain ⟨n1, n2, n3⟩ := hI
      obtain ⟨q1, q2, q3, q4, q5⟩ := fr0 hfr
      have hl := hKl _ hV
      have hc0 : i * f = (ex (cdl N st cl) f (cl 0) (i * f)).length * f := by rw [el]
      have hcan := cls_can r7 r5 hcl hC hS (c := i * f) hc0 hV (fun x hx => hN.2 x (hKc _ hV x hx))
      rw [el] at hcan n1 n3
      obtain ⟨sg, hsg⟩ := Classical.axiomOfChoice (show ∀ t, ∃ x, t < i → x_i M' (m + 25) t = nI x ∧ x < N ∧ cl x = (ex (cdl N st cl) f (cl 0) (i * f)).getD t 0 from fun t => by
        by_cases ht : t < i
        · obtain ⟨x, hx⟩ := n3 t ht
          exact ⟨x, fun _ => hx⟩
        · exact ⟨0, fun q => absurd q ht⟩)
      refine hQ M' i _ _ ((g1.wk (by decide) (by decide)).tr hfr (by decide) (by decide)) ⟨n1, by omega, sg, cl, fun t ht => ⟨(hsg t ht).1, (hsg t ht).2.1, ?_⟩, fun t ht => ⟨(q5 t ht).1, by have := (q5 t ht).2; omega⟩, fun t ht k hk => ?_⟩ hcan
      · show cmk N mk cl ((ex (cdl N st cl) f (cl 0) (i * f)).getD t 0) = mk (sg t)
        rw [← (hsg t ht).2.2, cmk_eq hC (hsg t ht).2.1]
      · obtain ⟨c1', c2'⟩ := ex_closed r7 hc0 (i := t) (d := k) (by omega) hk hV
        have hst : cl (st (sg t) k) = (ex (cdl N st cl) f (cl 0) (i * f)).getD (exl (cdl N st cl) f (cl 0) (t * f + k)) 0 := by
          rw [c2', ← (hsg t ht).2.2, cdl_eq hS (hsg t ht).2.1 hk]
        have hlt := hN.1 _ (hcl _ (hsg t ht).2.1 k hk)
        rw [n2 _ (by omega), hst, if_pos (getD_mem c1'), idx_getD (ex_nd _) c1']
    intro k
    induction k with
    | zero =>
      intro i hi M' hfr hI hV hle z z' hz hz'
      have hl := hKl _ hV
      have el : (ex (cdl N st cl) f (cl 0) (i * f)).length = i := by omega
      refine vX12_least_53 _ _ _ _ hz hz' ⟨(fr0 hfr).1.1, fun _ => done i M' hfr hI hV el, fun c => absurd (by rw [hI.1, el]; exact nI_le (Nat.le_refl i) (by omega)) c⟩
    | succ k ih =>
      intro i hi M' hfr hI hV hle z z' hz hz'
      have hl := hKl _ hV
      refine vX12_least_53 _ _ _ _ hz hz' ⟨(fr0 hfr).1.1, fun c => ?_, fun c => ?_⟩
      · rw [hI.1] at c
        have := (nI_leI (a := (ex (cdl N st cl) f (cl 0) (i * f)).length) (b := i) (by omega) (by omega)).mp c
        exact done i M' hfr hI hV (by omega)
      · rw [hI.1] at c
        have hil : i < (ex (cdl N st cl) f (cl 0) (i * f)).length := by
          rcases Nat.lt_or_ge i (ex (cdl N st cl) f (cl 0) (i * f)).length with q | q
          · exact q
          · exact absurd (nI_le q (by omega)) c
        exact inner i (fun M2 z z' g1 g2 g3 g4 hz hz' => ih (i + 1) (by omega) M2 g1 (by rw [Nat.succ_mul]; exact g2) (by rw [Nat.succ_mul]; exact g3) (by rw [Nat.succ_mul]; exact g4) z z' hz hz') f 0 (by omega) M' hfr hI hV hil z' hz'
  have clear : ∀ r a, a + r = N → ∀ M', FrM M1 M' m [29] [25, 26] → (∀ s, s < a → x_i M' (m + 26) s = -1) → LX12_least_6 G (d + 3) 0 0 m (nI a) M' Q := by
    intro r
    induction r with
    | zero =>
      intro a ha M' hfr hc
      obtain ⟨q1, q2, q3, q4, q5⟩ := fr0 hfr
      have e : a = N := by omega
      have h00 : (0 : Int32).toNatClampNeg = 0 := by decide
      refine vX12_least_6 _ _ ⟨q1.1, fun _ => ?_, fun c => absurd (by rw [q3, e]; exact nI_le (Nat.le_refl N) (by omega)) c⟩
      rintro M2 rfl
      refine ⟨m + 25, q1.r25, by show (x_h M' _).1 = 1; rw [q1.h25], by show vp_in _ (x_h M' _).2; rw [q1.h25]; exact vp_in_nI (show 0 < 8400 by omega) (by omega), ?_⟩
      rintro M3 rfl
      have hc0 := q5 0 r5
      refine ⟨m + 26, q1.r26, m + 22, q1.r22, by show (x_h M' _).1 = 1; rw [q1.h22], by show vp_in _ (x_h M' _).2; rw [q1.h22]; exact vp_in_nI (show 0 < 8400 by omega) (by omega), by show (x_h M' _).1 = 1; rw [q1.h26], ?_, ?_⟩
      · rw [h00, xm_oo (by decide), xm_om (by decide), hc0.1]
        show vp_in _ (x_h M' _).2
        rw [q1.h26]; exact vp_in_nI (show cl 0 < 8400 by omega) (by omega)
      · rintro M4 rfl
        rw [h00, xm_oo (by decide), xm_om (by decide), hc0.1, nI_clamp (by omega)]
        have h1 := (FrM.rf (M := M') (m := m) (F := [29]) (A := [25, 26])).sm (k := 29) (v := 1) (by decide)
        have h2 := h1.si (o := 25) (k := 0) (v := 0) (by decide) (by decide)
        have h3 := h2.si (o := 26) (k := cl 0) (v := 0) (by decide) (by decide)
        refine outer N 0 (by omega) _ (hfr.tr h3 (by decide) (by decide)) (by
          rw [Nat.zero_mul]
          refine ⟨by rw [xm_mo (by decide), xm_mo (by decide), xi_eq]; rfl, fun s hs => ?_, fun t ht => ?_⟩
          · show _ = if s ∈ [cl 0] then nI ([cl 0].idxOf s) else -1
            by_cases es : s = cl 0
            · rw [es, xi_eq]; simp; rfl
            · rw [xi_nk es, xm_oo (by decide), xm_om (by decide), hc s (by omega), if_neg (by simpa using es)]
          · have e0 : t = 0 := by have : t < 1 := ht; omega
            subst e0
            exact ⟨0, by rw [xm_oo (by decide), xi_eq]; rfl, r5, rfl⟩) (fun p hp => absurd hp (by omega)) (Nat.zero_le _) none none rfl rfl
    | succ r ih =>
      intro a ha M' hfr hc
      obtain ⟨q1, q2, q3, q4, q5⟩ := fr0 hfr
      refine vX12_least_6 _ _ ⟨q1.1, fun c => absurd (by rw [q3] at c; exact c) (nI_ge (a := a) (b := N) (by omega) (by omega)), fun _ => ⟨m + 26, q1.r26, by rw [q1.h26], by rw [q1.h26]; exact vp_in_nI (show a < 8400 by omega) (by omega), ?_⟩⟩
      rintro M2 rfl
      rw [nI_clamp (by omega), nI_1]
      have h1 : FrM M' (x_si M' (m + 26) a (-1)) m [29] [25, 26] := FrM.rf.si (by decide) (by decide)
      refine ih (a + 1) (by omega) _ (hfr.tr h1 (by decide) (by decide)) (fun s hs => ?_)
      by_cases e : s = a
      · rw [e, xi_eq]
      · rw [xi_nk e]; exact hc s (by omega)
  exact clear N 0 (by omega) M1 FrM.rf (fun s hs => absurd hs (Nat.not_lt_zero s))
end RLeastC
