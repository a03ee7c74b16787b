/-! ===== the reference: an atom of sums ===== -/
section RAtomC
variable {G : GG} {M : Mem} {m L rc : Nat} {t wd : Nat → Nat} {Q : Option Value → Mem → Prop}
/-- a part is laid down behind the others -/
theorem RfI.en {M' : Mem} {s : PSt} {P : PD} (h : RfI M m L t s) (hc : q_c s < 60) (ef : ∀ k, 38 ≤ k → k ≤ 46 → k ≠ 43 → x_i M' m k = x_i M m k) (e47 : x_i M' m 47 = nI (q_c s + 1)) (eo : ∀ o, 30 ≤ o → o ≤ 46 → ∀ j, (o ≠ 36 ∧ j ≠ q_c s) ∨ (o = 36 ∧ j < 8 * q_c s) → x_i M' (m + o) j = x_i M (m + o) j) (hP : ReD M' m (puD (q_D s) (q_c s) P) (q_c s)) (hl : 2 ≤ p_f P → p_l P < q_c s) (h8 : p_s P < 256) : RfI M' m L t (enP s P) := by
  obtain ⟨⟨h1, h2, h3, h4, h5, h6, h7, h8', h9⟩, ⟨b1, b2, b3, b4⟩, hD⟩ := h
  refine ⟨⟨?_, h2, h3, ?_, by rw [ef 42 (by omega) (by omega) (by omega)]; exact h5, by rw [ef 44 (by omega) (by omega) (by omega)]; exact h6, by rw [ef 45 (by omega) (by omega) (by omega)]; exact h7, by rw [ef 46 (by omega) (by omega) (by omega)]; exact h8', e47⟩, ⟨hc, fun j hj => ?_, b3, b4⟩, fun j hj => ?_⟩
  · unfold RtkI
    rw [ef 41 (by omega) (by omega) (by omega), ef 39 (by omega) (by omega) (by omega), ef 40 (by omega) (by omega) (by omega)]
    exact h1
  · rw [ef 38 (by omega) (by omega) (by omega)]; exact h4
  · have hj' : j < q_c s + 1 := hj
    show p_s (if j = q_c s then P else q_D s j) < 256
    by_cases c : j = q_c s
    · rw [if_pos c]; exact h8
    · rw [if_neg c]; exact b2 j (by omega)
  · have hj' : j < q_c s + 1 := hj
    have eP : puD (q_D s) (q_c s) P (q_c s) = P := if_pos rfl
    have en : ∀ i, i < q_c s → puD (q_D s) (q_c s) P i = q_D s i := fun i hi => if_neg (by omega)
    show ReD M' m (puD (q_D s) (q_c s) P) j ∧ (2 ≤ p_f (puD (q_D s) (q_c s) P j) → p_l (puD (q_D s) (q_c s) P j) < j)
    by_cases c : j = q_c s
    · rw [c, eP]
      exact ⟨hP, hl⟩
    · have hjc : j < q_c s := by omega
      obtain ⟨d1, d2⟩ := hD j hjc
      rw [en j hjc]
      refine ⟨?_, d2⟩
      have e : ∀ o, 30 ≤ o → o ≤ 46 → o ≠ 36 → x_i M' (m + o) j = x_i M (m + o) j := fun o h1 h2 h3 => eo o h1 h2 j (Or.inl ⟨h3, c⟩)
      unfold ReD SdR at d1 ⊢
      rw [en j hjc, e 30 (by omega) (by omega) (by omega), e 31 (by omega) (by omega) (by omega), e 32 (by omega) (by omega) (by omega), e 33 (by omega) (by omega) (by omega), e 34 (by omega) (by omega) (by omega), e 35 (by omega) (by omega) (by omega), e 37 (by omega) (by omega) (by omega), e 38 (by omega) (by omega) (by omega), e 39 (by omega) (by omega) (by omega), e 40 (by omega) (by omega) (by omega), e 41 (by omega) (by omega) (by omega), e 42 (by omega) (by omega) (by omega), e 43 (by omega) (by omega) (by omega), e 44 (by omega) (by omega) (by omega), e 45 (by omega) (by omega) (by omega), e 46 (by omega) (by omega) (by omega)]
      obtain ⟨x1, x2, x3, x4, x5, x6, x7, x8⟩ := d1
      refine ⟨x1, x2, x3, fun q => ⟨fun n hn => ?_, (x4 q).2⟩, x5, x6, x7, fun q => ?_⟩
      · rw [eo 36 (by omega) (by omega) (8 * j + n) (Or.inr ⟨rfl, by omega⟩)]
        exact (x4 q).1 n hn
      · obtain ⟨n, n1, n2, n3⟩ := x8 q
        exact ⟨n, n1, n2, by rw [en _ (Nat.lt_trans (d2 (by omega)) hjc)]; exact n3⟩
theorem e8p_ {c k : Nat} : (8 : Int32) * nI c + nI k = nI (8 * c + k) := by
  rw [show (8 : Int32) = nI 8 from rfl, s_mul, s_add]
theorem ur_atom128 (d : Nat) (hs : ReS M m) {c : Nat} (hc : c ≤ 129) {pl how : Int32}
    (hQ : ∀ M', FrM M M' m [] [35, 36, 37, 38] → (∀ k, k < 8 → x_i M' (m + 36) (8 * c + k) = x_i M (m + 47) k) → x_i M' (m + 37) c = x_i M m 66 → x_i M' (m + 38) c = how → x_i M' (m + 35) c = x_i M m 68 → (∀ o, o ∈ [35, 37, 38] → ∀ j, j ≠ c → x_i M' (m + o) j = x_i M (m + o) j) → (∀ j, j < 8 * c → x_i M' (m + 36) j = x_i M (m + 36) j) → Q (some (.int (nI c))) M') :
    LX12_atom_128 G (d + 1) 0 0 m pl how (nI c) 0 M Q := by
  have hcl : (nI c).toNatClampNeg = c := nI_clamp (by omega)
  have key : ∀ r k M', k + r = 8 → FrM M M' m [] [36] → (∀ i, i < k → x_i M' (m + 36) (8 * c + i) = x_i M (m + 47) i) → (∀ j, j < 8 * c → x_i M' (m + 36) j = x_i M (m + 36) j) → LX12_atom_128 G (d + 1) 0 0 m pl how (nI c) (nI k) M' Q := by
    intro r
    induction r with
    | zero =>
      intro k M' hk g h1 h2
      have s0 := g.S hs
      refine vX12_atom_128 _ _ _ _ _ ⟨fun _ => ⟨s0.1, m + 37, s0.r37, by rw [s0.h37], by rw [s0.h37]; exact vp_in_nI (show c < 130 by omega) (by omega), ?_⟩, fun q => absurd (by rw [show k = 8 by omega]; decide) q⟩
      rintro M6 rfl
      refine ⟨m + 38, s0.r38, by show (x_h M' (m + 38)).1 = 1; rw [s0.h38], by show vp_in (nI c) (x_h M' (m + 38)).2; rw [s0.h38]; exact vp_in_nI (show c < 130 by omega) (by omega), ?_⟩
      rintro M10 rfl
      refine ⟨m + 35, s0.r35, by show (x_h M' (m + 35)).1 = 1; rw [s0.h35], by show vp_in (nI c) (x_h M' (m + 35)).2; rw [s0.h35]; exact vp_in_nI (show c < 130 by omega) (by omega), ?_⟩
      rintro M14 rfl
      rw [hcl]
      have e66 : x_i M' m 66 = x_i M m 66 := g.fm (by decide)
      have e68 : x_i M' m 68 = x_i M m 68 := g.fm (by decide)
      refine hQ _ ((((g.wk (by decide) (by decide)).si (by omega) (by decide)).si (by omega) (by decide)).si (by omega) (by decide)) (fun i hi => ?_) ?_ ?_ ?_ (fun o ho j hj => ?_) (fun j hj => ?_)
      · rw [xi_na (by omega), xi_na (by omega), xi_na (by omega)]; exact h1 i (by omega)
      · rw [xi_na (by omega), xi_na (by omega), xi_eq, e66]
      · rw [xi_na (by omega), xi_eq]
      · rw [xi_eq, xi_na (by omega), xi_na (by omega), e68]
      · rw [xi_nk hj, xi_nk hj, xi_nk hj]
        simp only [List.mem_cons, List.not_mem_nil, or_false] at ho
        rw [g.i (by omega) (by simp only [List.mem_cons, List.not_mem_nil, or_false]; omega)]
      · rw [xi_na (by omega), xi_na (by omega), xi_na (by omega)]; exact h2 j hj
    | succ r ih =>
      intro k M' hk g h1 h2
      have s0 := g.S hs
      have hck : (nI k).toNatClampNeg = k := nI_clamp (by omega)
      refine vX12_atom_128 _ _ _ _ _ ⟨fun q => absurd q (nI_ge (a := k) (b := 8) (by omega) (by omega)), fun _ => ⟨s0.1, m + 36, s0.r36, m + 47, s0.r47, by rw [s0.h47], by rw [s0.h47]; exact vp_in_nI (show k < 8 by omega) (by omega), by rw [s0.h36], by rw [e8p_, s0.h36]; exact vp_in_nI (show 8 * c + k < 1040 by omega) (by omega), ?_⟩⟩
      rintro M22 rfl
      rw [e8p_, nI_clamp (by omega), hck, nI_1]
      refine ih (k + 1) _ (by omega) (g.si (by omega) (by decide)) (fun i hi => ?_) (fun j hj => ?_)
      · by_cases q : i = k
        · rw [q, xi_eq]; exact congrFun (g.i (by omega) (by decide)) k
        · rw [xi_nk (by omega)]; exact h1 i (by omega)
      · rw [xi_nk (by omega)]; exact h2 j hj
  exact key 8 0 M (by omega) FrM.rf (fun i hi => absurd hi (Nat.not_lt_zero i)) (fun j hj => rfl)
/-- what stands before an atom: no names, no numbers; and a fault leaves all as it is -/
theorem ur_atom0 (d : Nat) (hs : ReS M m) (hQ : ∀ M', FrM M M' m [66, 68] [47] → (∀ k, k < 8 → x_i M' (m + 47) k = 0) → x_i M' m 66 = 0 → x_i M' m 68 = 0 → Call G (d + 1) 0 0 mX12_sums [.ref m, .int 1] M' (fun r5 M6 => r5 = none ∧ (x_h M6 m).1 = 28 ∧ (¬ (x_i M6 m 39) = 11 → Call G (d + 1) 0 0 mX12_isSign [.ref m, .int 60] M6 (fun r9 M10 => ∃ v11 : Int32, r9 = some (.int v11) ∧ (v11 = 0 → (x_h M10 m).1 = 28 ∧ Call G (d + 1) 0 0 mX12_isSign [.ref m, .int 61] M10 (fun r14 M15 => ∃ v16 : Int32, r14 = some (.int v16) ∧ (v16 = 0 → (x_h M15 m).1 = 28 ∧ Call G (d + 1) 0 0 mX12_cannot [.ref m] M15 (fun r30 M31 => r30 = none ∧ Q (some (.int 0)) M31)) ∧ (¬ v16 = 0 → (x_h M15 m).1 = 28 ∧ Call G (d + 1) 0 0 mX12_next [.ref m] M15 (fun r34 M35 => r34 = none ∧ (x_h M35 m).1 = 28 ∧ Call G (d + 1) 0 0 mX12_sums [.ref m, .int (-1)] M35 (fun r37 M38 => r37 = none ∧ (x_h M38 m).1 = 28 ∧ Call G (d + 1) 0 0 mX12_ended [.ref m, .int 0, .int 0, .int 0, .int 0, .int (x_i M6 m 41)] M38 (fun r40 M41 => ∃ v42 : Int32, r40 = some (.int v42) ∧ LX12_atom_128 G (d + 1) 0 0 m (x_i M6 m 41) 0 v42 0 M41 Q)))))) ∧ (¬ v11 = 0 → (x_h M10 m).1 = 28 ∧ Call G (d + 1) 0 0 mX12_next [.ref m] M10 (fun r48 M49 => r48 = none ∧ (x_h M49 m).1 = 28 ∧ Call G (d + 1) 0 0 mX12_sums [.ref m, .int (-1)] M49 (fun r51 M52 => r51 = none ∧ (x_h M52 m).1 = 28 ∧ Call G (d + 1) 0 0 mX12_ended [.ref m, .int 0, .int 0, .int 0, .int 0, .int (x_i M6 m 41)] M52 (fun r54 M55 => ∃ v56 : Int32, r54 = some (.int v56) ∧ LX12_atom_128 G (d + 1) 0 0 m (x_i M6 m 41) 1 v56 0 M55 Q)))))) ∧ ((x_i M6 m 39) = 11 → Call G (d + 1) 0 0 mX12_next [.ref m] M6 (fun r61 M62 => r61 = none ∧ (x_h M62 m).1 = 28 ∧ Call G (d + 1) 0 0 mX12_sums [.ref m, .int (-1)] M62 (fun r64 M65 => r64 = none ∧ (x_h M65 m).1 = 28 ∧ Call G (d + 1) 0 0 mX12_ended [.ref m, .int 0, .int 0, .int 0, .int 0, .int (x_i M6 m 41)] M65 (fun r67 M68 => ∃ v69 : Int32, r67 = some (.int v69) ∧ LX12_atom_128 G (d + 1) 0 0 m (x_i M6 m 41) 2 v69 0 M68 Q)))))) : LX12_atom_15 G (d + 1) 0 0 m 0 M Q := by
  have key : ∀ r k M', k + r = 8 → FrM M M' m [66, 68] [47] → (∀ i, i < k → x_i M' (m + 47) i = 0) → LX12_atom_15 G (d + 1) 0 0 m (nI k) M' Q := by
    intro r
    induction r with
    | zero =>
      intro k M' hk g h1
      have s0 := g.S hs
      refine vX12_atom_15 _ _ ⟨fun _ => ⟨s0.1, ?_⟩, fun q => absurd (by rw [show k = 8 by omega]; decide) q⟩
      rintro M3 rfl M4 rfl
      have hq := hQ (x_si (x_si M' m 66 0) m 68 0) ((g.sm (by decide)).sm (by decide)) (fun i hi => by rw [xi_na (by omega), xi_na (by omega)]; exact h1 i (by omega)) (by rw [xi_nk (by omega), xi_eq]) xi_eq
      refine Call.mono hq ?_
      rintro r5 M6 ⟨rfl, a1, a2, a3⟩
      refine ⟨rfl, a1, fun c => Call.mono (a2 c) ?_, fun c => ⟨fun _ => a3 c, fun q => absurd q (by decide)⟩⟩
      rintro r9 M10 ⟨v11, rfl, b1, b2⟩
      refine ⟨v11, rfl, fun c => ⟨(b1 c).1, Call.mono (b1 c).2 ?_⟩, fun c => ⟨fun _ => b2 c, fun q => absurd q (by decide)⟩⟩
      rintro r14 M15 ⟨v16, rfl, c1, c2⟩
      exact ⟨v16, rfl, fun c => ⟨fun q => absurd rfl q, fun _ => c1 c⟩, fun c => ⟨fun _ => c2 c, fun q => absurd q (by decide)⟩⟩
    | succ r ih =>
      intro k M' hk g h1
      have s0 := g.S hs
      have hck : (nI k).toNatClampNeg = k := nI_clamp (by omega)
      refine vX12_atom_15 _ _ ⟨fun q => absurd q (nI_ge (a := k) (b := 8) (by omega) (by omega)), fun _ => ⟨s0.1, m + 47, s0.r47, by rw [s0.h47], by rw [s0.h47]; exact vp_in_nI (show k < 8 by omega) (by omega), ?_⟩⟩
      rintro M76 rfl
      rw [hck, nI_1]
      refine ih (k + 1) _ (by omega) (g.si (by omega) (by decide)) (fun i hi => ?_)
      by_cases q : i = k
      · rw [q, xi_eq]
      · rw [xi_nk q]; exact h1 i (by omega)
  exact key 8 0 M (by omega) FrM.rf (fun i hi => absurd hi (Nat.not_lt_zero i))
end RAtomC
