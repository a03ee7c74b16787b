/-! ===== Weaver: sets of states, all and is ===== -/
section SetsC
def hs (S : Nat) : Nat := (lN S * (-7046029254386353131)).toBitVec.toNat / 2 ^ 54
theorem hs_lt {S : Nat} : hs S < 1024 := by
  have := (lN S * (-7046029254386353131)).toBitVec.isLt
  unfold hs
  omega
theorem hs_eq {S : Nat} : ((((lN S * (-7046029254386353131)).toUInt64 >>> ((54 : Int32).toInt64.toUInt64 &&& Int64.toUInt64 63)).toInt64).toInt32) = nI (hs S) := by
  unfold hs
  obtain ⟨n, hn, e⟩ := wb_of (lN S * (-7046029254386353131))
  rw [e, wb_tn hn]
  have := wb_shr hn (k := 54) (by omega)
  rw [show ((54 : Int32)) = nI 54 from rfl, this, lN_i]
/-- the table of sets -/
def SeT (M : Mem) (w : Nat) (K : List Nat) : Prop :=
  x_i M w 10 = nI K.length ∧ K.length ≤ 300 ∧ K.Nodup ∧ (∀ x ∈ K, x < 2 ^ 62) ∧ (∀ i, i < K.length → x_l M (w + 19) i = lN (K.getD i 0)) ∧
  (∀ s, s < 1024 → x_i M (w + 20) s = -1 ∨ ∃ i, i < K.length ∧ x_i M (w + 20) s = nI i) ∧
  (∀ s s', s < 1024 → s' < 1024 → ∀ i, i < K.length → x_i M (w + 20) s = nI i → x_i M (w + 20) s' = nI i → s = s') ∧
  (∀ i, i < K.length → ∃ t, t < 1024 ∧ x_i M (w + 20) ((hs (K.getD i 0) + t) % 1024) = nI i ∧ ∀ t', t' < t → x_i M (w + 20) ((hs (K.getD i 0) + t') % 1024) ≠ -1)
theorem SeT.fr {M M' : Mem} {w : Nat} {K : List Nat} {A : List Nat} (h : SeT M w K) (g : Fr M M' A) (h1 : w ∉ A) (h2 : w + 19 ∉ A) (h3 : w + 20 ∉ A) : SeT M' w K := by
  unfold SeT
  rw [g.i h1, g.l h2, g.i h3]
  exact h
theorem nI_m1 {i : Nat} (h : i < 2 ^ 31) : nI i ≠ -1 := fun e => (s_eqm1 h).mp (e.trans (by decide))
/-- some slot is free, from wherever one begins -/
theorem SeT.free {M : Mem} {w : Nat} {K : List Nat} (h : SeT M w K) (a : Nat) : ∃ t, t < 1024 ∧ x_i M (w + 20) ((a + t) % 1024) = -1 ∧ ∀ t', t' < t → x_i M (w + 20) ((a + t') % 1024) ≠ -1 := by
  obtain ⟨h1, h2, h3, h4, h5, h6, h7, h8⟩ := h
  have ex1 : ∃ s, s < 1024 ∧ x_i M (w + 20) s = -1 := by
    refine Classical.byContradiction (fun hno => ?_)
    have hall : ∀ s, ∃ i, s < 1024 → i < K.length ∧ x_i M (w + 20) s = nI i := fun s => by
      by_cases hs : s < 1024
      · rcases h6 s hs with e | ⟨i, hi⟩
        · exact absurd ⟨s, hs, e⟩ hno
        · exact ⟨i, fun _ => hi⟩
      · exact ⟨0, fun q => absurd q hs⟩
    obtain ⟨g, hg⟩ := Classical.axiomOfChoice hall
    have := inj_le (g := g) (n := 1024) (m := K.length) (fun x y hx hy e => h7 x y hx hy (g x) (hg x hx).1 (hg x hx).2 (by rw [e]; exact (hg y hy).2)) (fun x hx => (hg x hx).1)
    omega
  obtain ⟨s, hs, e⟩ := ex1
  have ex2 : ∃ t, t < 1024 ∧ x_i M (w + 20) ((a + t) % 1024) = -1 := ⟨(s + 1024 - a % 1024) % 1024, Nat.mod_lt _ (by omega), by rw [show (a + (s + 1024 - a % 1024) % 1024) % 1024 = s by omega]; exact e⟩
  obtain ⟨t, ⟨ht, et⟩, hmin⟩ := pk_least (fun t => t < 1024 ∧ x_i M (w + 20) ((a + t) % 1024) = -1) ex2
  exact ⟨t, ht, et, fun t' ht' e' => hmin t' ht' ⟨by omega, e'⟩⟩
theorem Wk.forget {G : GG} {d rc rs : Nat} {md : MD} {pc : Nat} {lv lv' : List (Option Value)} {st : List Value} {X : Mem} {Q : Option Value → Mem → Prop} (hl : lv'.length = lv.length) (h : ∀ (i : Nat) (v : Value), lv'[i]? = some (some v) → lv[i]? = some (some v)) (k : Wk G d rc rs md pc lv' st X Q) : Wk G d rc rs md pc lv st X Q :=
  fun hG p e s m args below meth c H locs ls cells slots mc ms hc hy h1 h2 => k hG p e s m args below meth c H locs ls cells slots mc ms hc ⟨hy.1, hy.2.1, ⟨hy.2.2.1.1, hy.2.2.1.2.1, fun q hq => by
    obtain ⟨j, e1, e2⟩ := (lvp_mem lv' 0 q.1 q.2).mp hq
    exact hy.2.2.1.2.2 q ((lvp_mem lv 0 q.1 q.2).mpr ⟨j, e1, h j q.2 e2⟩)⟩, hl.trans hy.2.2.2⟩ h1 h2
variable {G : GG} {M : Mem} {w : Nat} {K : List Nat} {Q : Option Value → Mem → Prop}
theorem getD_app {K : List Nat} {S i : Nat} (h : i < K.length) : (K ++ [S]).getD i 0 = K.getD i 0 := by
  rw [List.getD_eq_getElem?_getD, List.getD_eq_getElem?_getD, List.getElem?_append_left h]
theorem getD_last {K : List Nat} {S : Nat} : (K ++ [S]).getD K.length 0 = S := by
  rw [List.getD_eq_getElem?_getD, List.getElem?_append_right (Nat.le_refl _), Nat.sub_self]
  rfl
theorem w_meetSet (d : Nat) (hw1 : (x_h M w).1 = 26) (r7 : x_r M w 7 = some (w + 19)) (r8 : x_r M w 8 = some (w + 20)) (t19 : x_h M (w + 19) = (2, 300)) (t20 : x_h M (w + 20) = (1, 1024)) (h : SeT M w K) {S : Nat} (hS : S < 2 ^ 62)
    (hQi : S ∈ K → Q (some (.int (nI (K.idxOf S)))) M)
    (hQn : S ∉ K → K.length < 300 → ∀ M', Fr M M' [w, w + 19, w + 20] → x_i M' w 11 = x_i M w 11 → SeT M' w (K ++ [S]) → Q (some (.int (nI K.length))) M')
    (hQf : S ∉ K → 300 ≤ K.length → Q (some (.int (-1))) M) : Call G (d + 2) 0 0 mX10_meetSet [.ref w, .long (lN S)] M Q := by
  have h0 := h
  obtain ⟨h1, h2, h3, h4, h5, h6, h7, h8⟩ := h
  refine eX10_meetSet w _ ?_
  rw [hs_eq]
  have hhlt : hs S < 1024 := hs_lt
  generalize hH : hs S = hh at hhlt ⊢
  have hmod : ∀ x : Nat, x % 1024 < 1024 := fun x => Nat.mod_lt x (by omega)
  have hnext : ∀ t, (nI ((hh + t) % 1024) + 1) &&& 1023 = nI ((hh + (t + 1)) % 1024) := fun t => by
    rw [nI_1, pk_andN (by have := hmod (hh + t); omega) 10 (by decide)]
    congr 1
    omega
  have key : ∀ t0, t0 < 1024 → (∀ t', t' < t0 → x_i M (w + 20) ((hh + t') % 1024) ≠ -1) → (∀ t', t' < t0 → ∀ i, i < K.length → x_i M (w + 20) ((hh + t') % 1024) = nI i → K.getD i 0 = S → Q (some (.int (nI i))) M) → (∀ z, c1 z = true → LX10_meetSet_13 G (d + 1) 0 0 w (lN S) (nI ((hh + t0) % 1024)) (nI t0) z M Q) → ∀ r t, t + r = t0 → ∀ z, c1 z = true → LX10_meetSet_13 G (d + 1) 0 0 w (lN S) (nI ((hh + t) % 1024)) (nI t) z M Q := by
    intro t0 ht0 hne hfound hend r
    induction r with
    | zero =>
      intro t ht z hz
      have e : t = t0 := by omega
      subst e
      exact hend z hz
    | succ r ih =>
      intro t ht z hz
      have hs1 := hmod (hh + t)
      refine vX10_meetSet_13 _ _ _ _ _ hz ⟨fun c => absurd c (nI_ge (a := t) (b := 1024) (by omega) (by omega)), fun _ => ⟨hw1, w + 20, r8, by rw [t20], by rw [t20]; exact vp_in_nI hs1 (by omega), ?_⟩⟩
      rw [nI_clamp (by omega)]
      refine ⟨fun _ => ⟨w + 19, r7, by rw [t19], ?_, ?_⟩, fun c => absurd c (hne t (by omega))⟩
      · rcases h6 _ hs1 with e | ⟨i, hi, e⟩
        · exact absurd e (hne t (by omega))
        · rw [e, t19]; exact vp_in_nI (show i < 300 by omega) (by omega)
      · rcases h6 _ hs1 with e | ⟨i, hi, e⟩
        · exact absurd e (hne t (by omega))
        · rw [e, nI_clamp (by omega), h5 i hi, lg_cmp_eq, pk_lEQ (by have := h4 _ (getD_mem hi); omega) (by omega), hnext, nI_1]
          exact ⟨fun c => ih (t + 1) (by omega) _ rfl, fun c => hfound t (by omega) i hi e c⟩
  by_cases c : S ∈ K
  · have hi := idx_lt c
    have hg := getD_idx c
    obtain ⟨t0, ht0, e0, hne⟩ := h8 _ hi
    rw [hg, hH] at e0 hne
    have fin := key t0 ht0 hne (fun t' ht' i hi2 e2 e3 => by
      have : i = K.idxOf S := getD_inj h3 hi2 hi (by rw [e3, hg])
      rw [this]; exact hQi c) (fun z hz => by
      have hs1 := hmod (hh + t0)
      refine vX10_meetSet_13 _ _ _ _ _ hz ⟨fun c => absurd c (nI_ge (a := t0) (b := 1024) (by omega) (by omega)), fun _ => ⟨hw1, w + 20, r8, by rw [t20], by rw [t20]; exact vp_in_nI hs1 (by omega), ?_⟩⟩
      rw [nI_clamp (by omega), e0]
      refine ⟨fun _ => ⟨w + 19, r7, by rw [t19], by rw [t19]; exact vp_in_nI (show K.idxOf S < 300 by omega) (by omega), ?_⟩, fun c => absurd c (nI_m1 (by omega))⟩
      rw [nI_clamp (by omega), h5 _ hi, hg, lg_cmp_eq]
      exact ⟨fun c2 => absurd rfl c2, fun _ => hQi c⟩) t0 0 (by omega) none rfl
    have e00 : (hh + 0) % 1024 = hh := by rw [Nat.add_zero, Nat.mod_eq_of_lt hhlt]
    rw [e00] at fin
    exact fin
  · obtain ⟨t0, ht0, e0, hne⟩ := h0.free hh
    have fin := key t0 ht0 hne (fun t' ht' i hi2 e2 e3 => absurd (by rw [← e3]; exact getD_mem hi2) c) (fun z hz => by
      have hs1 := hmod (hh + t0)
      refine vX10_meetSet_13 _ _ _ _ _ hz ⟨fun c => absurd c (nI_ge (a := t0) (b := 1024) (by omega) (by omega)), fun _ => ⟨hw1, w + 20, r8, by rw [t20], by rw [t20]; exact vp_in_nI hs1 (by omega), ?_⟩⟩
      rw [nI_clamp (by omega), e0]
      refine ⟨fun c => absurd rfl c, fun _ => ?_⟩
      refine eX10_addSet w _ _ ⟨hw1, ?_⟩
      rw [h1]
      refine ⟨fun c3 => ⟨w + 19, r7, by rw [t19], ?_, ?_⟩, fun c3 => ⟨_, rfl, ?_⟩⟩
      · have hl := (nI_ltI (a := K.length) (b := 300) (by omega) (by omega)).mp c3
        rw [t19]; exact vp_in_nI (show K.length < 300 by omega) (by omega)
      · have hl := (nI_ltI (a := K.length) (b := 300) (by omega) (by omega)).mp c3
        rintro M6 rfl
        refine ⟨w + 20, r8, by rw [t20], by rw [t20]; exact vp_in_nI hs1 (by omega), ?_⟩
        rintro M10 rfl M11 rfl
        have hcl : (nI K.length).toNatClampNeg = K.length := nI_clamp (by omega)
        have hcs : (nI ((hh + t0) % 1024)).toNatClampNeg = (hh + t0) % 1024 := nI_clamp (by omega)
        have e10 : x_i (x_sl M (w + 19) (nI K.length).toNatClampNeg (lN S)) w 10 = nI K.length := h1
        have ev : x_i (x_si (x_si (x_sl M (w + 19) (nI K.length).toNatClampNeg (lN S)) (w + 20) (nI ((hh + t0) % 1024)).toNatClampNeg (nI K.length)) w 10 (nI K.length + 1)) w 10 - 1 = nI K.length := by
          rw [xi_eq, nI_1, nI_pred]
        have ew : x_i (x_si (x_sl M (w + 19) (nI K.length).toNatClampNeg (lN S)) (w + 20) (nI ((hh + t0) % 1024)).toNatClampNeg (nI K.length)) w 10 = nI K.length := by
          rw [xi_na (by omega)]; exact h1
        rw [e10, ew]
        rw [ev]
        refine ⟨_, rfl, ?_⟩
        refine hQn c hl _ (((Fr.rf.sl (by simp)).si (by simp)).si (by simp)) (by rw [xi_nk (by omega), xi_na (by omega)]; rfl) ?_
        rw [hcl, hcs]
        have hslot : ∀ s, x_i (x_si (x_si (x_sl M (w + 19) K.length (lN S)) (w + 20) ((hh + t0) % 1024) (nI K.length)) w 10 (nI K.length + 1)) (w + 20) s = if s = (hh + t0) % 1024 then nI K.length else x_i M (w + 20) s := fun s => by
          rw [xi_na (by omega)]
          by_cases e : s = (hh + t0) % 1024
          · rw [e, xi_eq, if_pos rfl]
          · rw [xi_nk e, if_neg e]; rfl
        have hnK : ∀ i, i < K.length → nI i ≠ nI K.length := fun i hi e => by
          have := (nI_eq (by omega) (by omega)).mp e
          omega
        refine ⟨?_, by rw [List.length_append]; simp; omega, ?_, fun x hx => ?_, fun i hi => ?_, fun s hs2 => ?_, fun s s' hs2 hs3 i hi e1 e2 => ?_, fun i hi => ?_⟩
        · rw [xi_eq, nI_1, List.length_append]; rfl
        · exact List.nodup_append.mpr ⟨h3, by simp, fun a ha b hb e => c (by rw [List.mem_singleton] at hb; rw [← hb, ← e]; exact ha)⟩
        · rcases List.mem_append.mp hx with q | q
          · exact h4 x q
          · rw [List.mem_singleton.mp q]; exact hS
        · have el : ∀ j, x_l (x_si (x_si (x_sl M (w + 19) K.length (lN S)) (w + 20) ((hh + t0) % 1024) (nI K.length)) w 10 (nI K.length + 1)) (w + 19) j = if j = K.length then lN S else x_l M (w + 19) j := fun j => by
            show x_l (x_sl M (w + 19) K.length (lN S)) (w + 19) j = _
            by_cases e : j = K.length
            · rw [e, xl_eq, if_pos rfl]
            · rw [xl_nk e, if_neg e]
          rw [el]
          rw [List.length_append] at hi
          simp at hi
          by_cases e : i = K.length
          · rw [if_pos e, e, getD_last]
          · rw [if_neg e, getD_app (by omega)]; exact h5 i (by omega)
        · rw [hslot]
          by_cases e : s = (hh + t0) % 1024
          · rw [if_pos e]
            exact Or.inr ⟨K.length, by rw [List.length_append]; simp, rfl⟩
          · rw [if_neg e]
            rcases h6 s hs2 with q | ⟨i, hi, q⟩
            · exact Or.inl q
            · exact Or.inr ⟨i, by rw [List.length_append]; omega, q⟩
        · rw [hslot] at e1 e2
          rw [List.length_append] at hi
          simp at hi
          by_cases c1 : s = (hh + t0) % 1024
          · by_cases c2 : s' = (hh + t0) % 1024
            · rw [c1, c2]
            · rw [if_pos c1] at e1
              rw [if_neg c2] at e2
              have : i = K.length := ((nI_eq (by omega) (by omega)).mp e1).symm
              rcases h6 s' hs3 with q | ⟨k, hk, q⟩
              · exact absurd (e2.symm.trans q) (nI_m1 (by omega))
              · exact absurd (q.symm.trans e2) (by rw [this]; exact hnK k hk)
          · by_cases c2 : s' = (hh + t0) % 1024
            · rw [if_pos c2] at e2
              rw [if_neg c1] at e1
              have : i = K.length := ((nI_eq (by omega) (by omega)).mp e2).symm
              rcases h6 s hs2 with q | ⟨k, hk, q⟩
              · exact absurd (e1.symm.trans q) (nI_m1 (by omega))
              · exact absurd (q.symm.trans e1) (by rw [this]; exact hnK k hk)
            · rw [if_neg c1] at e1
              rw [if_neg c2] at e2
              rcases h6 s hs2 with q | ⟨k, hk, q⟩
              · exact absurd (e1.symm.trans q) (nI_m1 (by omega))
              · have : i = k := (nI_eq (by omega) (by omega)).mp (e1.symm.trans q)
                exact h7 s s' hs2 hs3 i (by omega) e1 e2
        · rw [List.length_append] at hi
          simp at hi
          by_cases e : i = K.length
          · rw [e, getD_last, hH]
            refine ⟨t0, ht0, by rw [hslot, if_pos rfl], fun t' ht' => ?_⟩
            rw [hslot]
            by_cases e2 : (hh + t') % 1024 = (hh + t0) % 1024
            · rw [if_pos e2]; exact nI_m1 (by omega)
            · rw [if_neg e2]; exact hne t' ht'
          · rw [getD_app (by omega)]
            obtain ⟨t1, ht1, q1, q2⟩ := h8 i (by omega)
            refine ⟨t1, ht1, ?_, fun t' ht' => ?_⟩
            · rw [hslot]
              by_cases e2 : (hs (K.getD i 0) + t1) % 1024 = (hh + t0) % 1024
              · rw [e2, e0] at q1
                exact absurd q1.symm (nI_m1 (by omega))
              · rw [if_neg e2]; exact q1
            · rw [hslot]
              by_cases e2 : (hs (K.getD i 0) + t') % 1024 = (hh + t0) % 1024
              · rw [if_pos e2]; exact nI_m1 (by omega)
              · rw [if_neg e2]; exact q2 t' ht'
      · have hl : ¬ K.length < 300 := fun q => c3 (nI_lt (a := K.length) (b := 300) q (by omega))
        exact hQf c (by omega)) t0 0 (by omega) none rfl
    have e00 : (hh + 0) % 1024 = hh := by rw [Nat.add_zero, Nat.mod_eq_of_lt hhlt]
    rw [e00] at fin
    exact fin
/-- no set is met -/
theorem SeT.start (h10 : x_i M w 10 = nI 0) (h20 : ∀ s, s < 1024 → x_i M (w + 20) s = -1) : SeT M w [] :=
  ⟨h10, by simp, List.nodup_nil, fun x hx => absurd hx List.not_mem_nil, fun i hi => absurd hi (Nat.not_lt_zero i), fun s hs => Or.inl (h20 s hs), fun s s' hs hs' i hi => absurd hi (Nat.not_lt_zero i), fun i hi => absurd hi (Nat.not_lt_zero i)⟩
variable {o mv mk nm nk n F : Nat} {st : Nat → Nat → Nat} {mr : Nat → Nat}
theorem w_takers (d : Nat) (hs : LeS M o mv mk nm nk) (h : LeI M o mv mk n F st mr) (hn : n ≤ nk) (hn2 : n ≤ 60) (hm : ∀ i, i < n → mr i < 2 ^ 31) (hQ : Q (some (.long (lN (tkm mr n)))) M) : Call G (d + 3) 0 0 mX10_takers [.ref o] M Q := by
  refine eX10_takers o ?_
  have key : ∀ r i, i + r = n → LX10_takers_4 G (d + 2) 0 0 o (lN (tkm mr i)) (nI i) M Q := by
    intro r
    induction r with
    | zero =>
      intro i hi
      have e : i = n := by omega
      subst e
      refine vX10_takers_4 _ _ _ ⟨hs.1, fun _ => hQ, fun c => absurd (by rw [h.1]; exact nI_le (Nat.le_refl i) (by omega)) c⟩
    | succ r ih =>
      intro i hi
      refine vX10_takers_4 _ _ _ ⟨hs.1, fun c => absurd (by rw [h.1] at c; exact c) (nI_ge (a := i) (b := n) (by omega) (by omega)), fun _ => ?_⟩
      refine Call.mono (k_mark d hs h hn (by omega)) ?_
      rintro r' M1 ⟨rfl, rfl⟩
      have ih2 := ih (i + 1) (by omega)
      have e1 : nI (mr i) = 1 ↔ mr i = 1 := nI_eq (b := 1) (hm i (by omega)) (by omega)
      refine ⟨_, rfl, fun c => ?_, fun c => ?_⟩
      · rw [e1] at c
        rw [show tkm mr (i + 1) = tkm mr i from if_neg c] at ih2
        rw [nI_1]; exact ih2
      · rw [e1] at c
        rw [show tkm mr (i + 1) = tkm mr i ||| 2 ^ i from if_pos c] at ih2
        rw [l_1sh (by omega), l_or (tkm_lt (by omega)) (pow_62 (by omega)), nI_1]; exact ih2
  exact key n 0 (by omega)
theorem spd_skip {vf : Nat → Nat} {S g i : Nat} (h : ¬ bt S i = 1) : ∀ k, spd st F vf S g (i + 1) k = spd st F vf S g i F
  | 0 => by rw [spd]
  | k + 1 => by rw [spd, if_neg (fun e => h e.1), spd_skip h k]
theorem spd_00 {vf : Nat → Nat} {S g k : Nat} : spd st F vf S g 0 k = 0 := by rw [spd]
theorem w_spread (d : Nat) (hw1 : (x_h M w).1 = 26) (r3 : x_r M w 3 = some (w + 15)) (r9 : x_r M w 9 = some (w + 21)) (t15 : x_h M (w + 15) = (1, 27)) (t21 : x_h M (w + 21) = (2, 27)) (hs : LeS M o mv mk nm nk) (h : LeI M o mv mk n F st mr) (hod : ∀ y ∈ [o, mv, mk], y ≠ w + 21) (hn : n * F ≤ nm) (hn2 : n ≤ 60) (hF : F ≤ 27) (hc : ∀ a, a < n → ∀ c, c < F → st a c < n) {vf : Nat → Nat} (hv : ∀ k, k < F → x_i M (w + 15) k = nI (vf k) ∧ vf k < 27) {S : Nat} (hS : S < 2 ^ 62)
    (hQ : ∀ M', Fr M M' [w + 21] → (∀ g, g < 27 → x_l M' (w + 21) g = lN (sp st n F vf S g)) → Q none M') : Call G (d + 2) 0 0 mX10_spread [.ref w, .ref o, .long (lN S)] M Q := by
  refine eX10_spread w o _ ⟨hw1, w + 21, r9, ?_⟩
  refine w_fillL d t21 (by omega) ⟨rfl, ?_⟩
  have hfr0 : Fr M (x_fl M (w + 21) 0 27 0) [w + 21] := Fr.rf.fl (by simp)
  have hon : ∀ y ∈ [o, mv, mk], y ∉ [w + 21] := fun y hy => by have := hod y hy; simpa using this
  have key : ∀ r i, i + r = n → ∀ M', Fr M M' [w + 21] → (∀ g, g < 27 → x_l M' (w + 21) g = lN (spd st F vf S g i F)) → ∀ z, c1 z = true → LX10_spread_11 G (d + 1) 0 0 w o (lN S) (nI i) z M' Q := by
    intro r
    induction r with
    | zero =>
      intro i hi M' hfr hp z hz
      have e : i = n := by omega
      subst e
      have h' := h.fF hfr hon
      exact vX10_spread_11 _ _ _ _ _ hz ⟨by rw [hfr.h]; exact hs.1, fun _ => hQ M' hfr hp, fun c => absurd (by rw [h'.1]; exact nI_le (Nat.le_refl i) (by omega)) c⟩
    | succ r ih =>
      intro i hi M' hfr hp z hz
      have h' := h.fF hfr hon
      refine vX10_spread_11 _ _ _ _ _ hz ⟨by rw [hfr.h]; exact hs.1, fun c => absurd (by rw [h'.1] at c; exact c) (nI_ge (a := i) (b := n) (by omega) (by omega)), fun _ => ?_⟩
      have hb := bt_le (x := S) (n := i)
      rw [lsb hS (by omega), lg_cmp_eq, lN_eq0 (by omega)]
      refine ⟨fun c => ?_, fun c => ?_⟩
      · rw [nI_1]
        refine ih (i + 1) (by omega) M' hfr (fun g hg => ?_) _ hz
        rw [hp g hg, spd_skip (by omega)]
      · have cb1 : bt S i = 1 := by omega
        have inner : ∀ r2 k, k + r2 = F → ∀ M', Fr M M' [w + 21] → (∀ g, g < 27 → x_l M' (w + 21) g = lN (spd st F vf S g (i + 1) k)) → LX10_spread_34 G (d + 1) 0 0 w o (lN S) (nI i) (nI k) M' Q := by
          intro r2
          induction r2 with
          | zero =>
            intro k hk M' hfr hp
            have e : k = F := by omega
            subst e
            have h' := h.fF hfr hon
            refine vX10_spread_34 _ _ _ _ _ ⟨by rw [hfr.h]; exact hs.1, fun _ => ?_, fun c => absurd (by rw [h'.2.1]; exact nI_le (Nat.le_refl k) (by omega)) c⟩
            rw [nI_1]
            exact ih (i + 1) (by omega) M' hfr hp _ rfl
          | succ r2 ih2 =>
            intro k hk M' hfr hp
            have h' := h.fF hfr hon
            have hs' := hs.fF hfr
            obtain ⟨v1, v2⟩ := hv k (by omega)
            have v1' : x_i M' (w + 15) k = nI (vf k) := by rw [hfr.i (by simp)]; exact v1
            have hst := hc i (by omega) k (by omega)
            refine vX10_spread_34 _ _ _ _ _ ⟨hs'.1, fun c => absurd (by rw [h'.2.1] at c; exact c) (nI_ge (a := k) (b := F) (by omega) (by omega)), fun _ => ⟨by rw [hfr.h]; exact hw1, w + 15, by rw [hfr.r]; exact r3, by rw [hfr.h, t15]; exact k18, fun c => absurd (by rw [hfr.h, t15] at c; exact c) (nI_ge (a := k) (b := 27) (by omega) (by omega)), fun _ => ⟨w + 21, by rw [hfr.r]; exact r9, by rw [hfr.h, t15], by rw [hfr.h, t15]; exact vp_in_nI (show k < 27 by omega) (by omega), by rw [hfr.h, t21], ?_, ?_⟩⟩⟩
            · rw [nI_clamp (by omega), v1', hfr.h, t21]; exact vp_in_nI v2 (by omega)
            · rw [nI_clamp (by omega), v1', nI_clamp (by omega)]
              refine Call.mono (k_after d hs' h' hn (by omega) (by omega)) ?_
              rintro r' M1 ⟨rfl, rfl⟩
              refine ⟨_, rfl, by rw [hfr.h, t21], by rw [hfr.h, t21]; exact vp_in_nI v2 (by omega), ?_⟩
              rintro M2 rfl
              have hlt : spd st F vf S (vf k) (i + 1) k < 2 ^ 62 := spd_lt (n := n) (by omega) (by omega) (by omega) hc
              rw [hp _ v2, l_1sh (by omega), l_or hlt (pow_62 (by omega)), nI_1]
              refine ih2 (k + 1) (by omega) _ (hfr.sl (by simp)) (fun g hg => ?_)
              by_cases eg : g = vf k
              · rw [eg, xl_eq, spd, if_pos ⟨cb1, rfl⟩]
              · rw [xl_nk eg, hp g hg, spd, if_neg (fun e => eg e.2.symm)]
        refine inner F 0 (by omega) M' hfr (fun g hg => ?_)
        rw [hp g hg, spd]
  exact key n 0 (by omega) _ hfr0 (fun g hg => by rw [xg_in (by omega) hg, spd_00]; rfl) none rfl
theorem w_firstSet (d : Nat) (hw1 : (x_h M w).1 = 26) (r3 : x_r M w 3 = some (w + 15)) (r9 : x_r M w 9 = some (w + 21)) (t15 : x_h M (w + 15) = (1, 27)) (t21 : x_h M (w + 21) = (2, 27)) (hs : LeS M o mv mk nm nk) (h : LeI M o mv mk n F st mr) (hod : ∀ y ∈ [o, mv, mk], y ≠ w + 21) (hn : n * F ≤ nm) (hn0 : 0 < n) (hn2 : n ≤ 40) (hF : F ≤ 27) (hc : ∀ a, a < n → ∀ c, c < F → st a c < n) {vf : Nat → Nat} (hv : ∀ k, k < F → x_i M (w + 15) k = nI (vf k) ∧ vf k < 27)
    (hQ : ∀ M' k, Fr M M' [w + 21] → cl0 st n F vf (k + 1) = cl0 st n F vf k → Q (some (.long (lN (cl0 st n F vf k)))) M') : Call G (d + 3) 0 0 mX10_firstSet [.ref w, .ref o] M Q := by
  refine eX10_firstSet w o ?_
  have hon : ∀ y ∈ [o, mv, mk], y ∉ [w + 21] := fun y hy => by have := hod y hy; simpa using this
  have h62 : ∀ k, cl0 st n F vf k < 2 ^ 62 := fun k => Nat.lt_of_lt_of_le (cl0_lt hn0 hc k) (Nat.pow_le_pow_right (by omega) (by omega))
  have key : ∀ r t, t + r = 40 → ∀ M', Fr M M' [w + 21] → (∀ i, i < t → cl0 st n F vf (i + 1) ≠ cl0 st n F vf i) → ∀ z z1, c1 z = true → c1 z1 = true → LX10_firstSet_5 G (d + 2) 0 0 w o (lN (cl0 st n F vf t)) (nI t) z z1 M' Q := by
    intro r
    induction r with
    | zero =>
      intro t ht M' hfr hne
      have e : t = 39 + 1 := by omega
      subst e
      have h1 := cl0_stop (vf := vf) hn0 hc 39 (hne 39 (by omega)) (fun i hi => hne i (by omega))
      have h2 := cb_le (S := cl0 st n F vf (39 + 1)) n
      omega
    | succ r ih =>
      intro t ht M' hfr hne z z1 hz hz1
      refine vX10_firstSet_5 _ _ _ _ _ _ hz hz1 ⟨fun c => absurd c (nI_ge (a := t) (b := 40) (by omega) (by omega)), fun _ => ⟨by rw [hfr.h]; exact hw1, ?_⟩⟩
      refine w_spread d (by rw [hfr.h]; exact hw1) (by rw [hfr.r]; exact r3) (by rw [hfr.r]; exact r9) (by rw [hfr.h]; exact t15) (by rw [hfr.h]; exact t21) (hs.fF hfr) (h.fF hfr hon) hod hn (by omega) hF hc (fun k hk => by rw [hfr.i (by simp)]; exact hv k hk) (h62 t) (fun M1 g1 g2 => ?_)
      have hfr1 : Fr M M1 [w + 21] := hfr.tr g1 (by simp)
      refine ⟨rfl, by rw [hfr1.h]; exact hw1, w + 21, by rw [hfr1.r]; exact r9, by rw [hfr1.h, t21], by rw [hfr1.h, t21]; exact vp_in_nI (show 0 < 27 by omega) (by omega), ?_⟩
      have e0 : (0 : Int32).toNatClampNeg = 0 := by decide
      have hsl : sp st n F vf (cl0 st n F vf t) 0 < 2 ^ 62 := Nat.lt_of_lt_of_le (sp_lt hc) (Nat.pow_le_pow_right (by omega) (by omega))
      have e1 : cl0 st n F vf (t + 1) = cl0 st n F vf t ||| sp st n F vf (cl0 st n F vf t) 0 := rfl
      rw [e0, g2 0 (by omega), l_or (h62 t) hsl, ← e1, lg_cmp_eq, pk_lEQ (by have := h62 (t + 1); omega) (by have := h62 t; omega), nI_1]
      refine ⟨fun c => Wk.forget (lv' := [some (.ref w), some (.ref o), some (.long (lN (cl0 st n F vf (t + 1)))), none, some (.int (nI (t + 1))), none, none]) rfl (fun i v h => ?_) (ih (t + 1) (by omega) M1 hfr1 (fun i hi => ?_) none none rfl rfl), fun c => hQ M1 t hfr1 c⟩
      · match i with
        | 0 => exact h
        | 1 => exact h
        | 2 => exact h
        | 3 => exact h
        | 4 => exact h
        | 5 => exact absurd h (by simp)
        | 6 => exact absurd h (by simp)
        | i + 7 => exact absurd h (by simp)
      by_cases e2 : i = t
      · rw [e2]; exact c
      · exact hne i (by omega)
  exact key 40 0 (by omega) M Fr.rf (fun i hi => absurd hi (Nat.not_lt_zero i)) none none rfl rfl
end SetsC
