/-! ===== the reference: a question is decided ===== -/
section RDecC
variable {G : GG} {M : Mem} {m b : Nat} {Q : Option Value → Mem → Prop}
def rbit : Option Nat → Nat
  | none => 0
  | some r => 2 ^ r
/-- the rows that the first parts speak of -/
def rowsOf (D : Nat → PD) : Nat → Nat
  | 0 => 0
  | k + 1 => rowsOf D k ||| (if p_f (D k) = 1 then rbit (s_r (p_a (D k))) ||| rbit (s_r (p_b (D k))) else 0)
theorem shl_rows : ∀ r, r < 10 → ((1 : Int32) <<< (nI r &&& 31)) = nI (2 ^ r) := by decide
theorem ur_qrows (d : Nat) (hs : ReS M m) {q cnt rc : Nat} {D : Nat → PD} {R : Nat → Mc} (hq : q < 10) (hrc : rc ≤ 10) (hcnt : cnt ≤ 60) (h47 : x_i M m 47 = nI cnt) (hD : ∀ j, j < cnt → ReD M m D j ∧ PWf R rc D j) (h11 : x_i M (m + 11) q = 0)
    (hQ : ∀ M', FrM M M' m [] [11] → QuK M M' m q → x_i M' (m + 11) q = nI (rowsOf D cnt) → ∀ z, c1 z = true → LX12_question_200 G (d + 8) 0 0 m (nI q) (nI 0) z M' Q) : LX12_question_120 G (d + 8) 0 0 m (nI q) (nI 0) none M Q := by
  have hcq : (nI q).toNatClampNeg = q := nI_clamp (by omega)
  have key : ∀ r k, k + r = cnt → ∀ M', FrM M M' m [] [11] → QuK M M' m q → x_i M' (m + 11) q = nI (rowsOf D k) → ∀ z, c1 z = true → LX12_question_120 G (d + 8) 0 0 m (nI q) (nI k) z M' Q := by
    intro r
    induction r with
    | zero =>
      intro k hk M' hfr hqk h z hz
      have e : k = cnt := by omega
      rw [e] at h ⊢
      have q1 := hfr.S hs
      exact vX12_question_120 _ _ _ _ hz ⟨q1.1, fun _ => hQ M' hfr hqk h z hz, fun c => absurd (by rw [hfr.fm (by decide), h47]; exact nI_le (Nat.le_refl _) (by omega)) c⟩
    | succ r ih =>
      intro k hk M' hfr hqk h z hz
      have q1 := hfr.S hs
      obtain ⟨d0, dwf⟩ := hD k (by omega)
      have d0' := d0.fr hfr (by decide)
      obtain ⟨o30, o34, o35, f0, f1, f2, f3, f6⟩ := d0'
      obtain ⟨v1, v2, v3, v4, v5, -⟩ := dwf
      have hck : (nI k).toNatClampNeg = k := nI_clamp (by omega)
      have e1 : nI (p_f (D k)) = 1 ↔ p_f (D k) = 1 := nI_eq (b := 1) (by omega) (by omega)
      have next : ∀ (w : Nat) z, c1 z = true → rowsOf D (k + 1) = rowsOf D k ||| w → ∀ M6, M6 = x_si M' (m + 11) q (nI (rowsOf D k) ||| nI w) → LX12_question_120 G (d + 8) 0 0 m (nI q) (nI k + 1) z M6 Q := by
        rintro w z hz ew M6 rfl
        rw [nI_or, nI_1, ← ew]
        exact ih (k + 1) (by omega) _ (hfr.si (by decide) (by decide)) (hqk.tr (QuK.si (by omega) (by omega))) xi_eq z hz
      refine vX12_question_120 _ _ _ _ hz ⟨q1.1, fun c => absurd (by rw [hfr.fm (by decide), h47] at c; exact c) (nI_ge (a := k) (b := cnt) (by omega) (by omega)), fun _ => ⟨m + 30, q1.r30, by rw [q1.h30], by rw [q1.h30]; exact vp_in_nI (show k < 130 by omega) (by omega), ?_⟩⟩
      rw [hck, o30, e1]
      refine ⟨fun c => vX12_question_143 _ _ _ _ _ hz ⟨q1.1, m + 11, q1.r11, by rw [q1.h11], by rw [q1.h11]; exact vp_in_nI hq (by omega), fun _ => ?_, fun c2 => absurd rfl c2⟩, fun c => vX12_question_143 _ _ _ _ _ hz ⟨q1.1, m + 11, q1.r11, by rw [q1.h11], by rw [q1.h11]; exact vp_in_nI hq (by omega), fun c2 => absurd c2 (by decide), fun _ => ?_⟩⟩
      · rw [hcq, h]
        exact next 0 _ rfl (by show rowsOf D k ||| (if p_f (D k) = 1 then _ else 0) = _; rw [if_neg c])
      · obtain ⟨⟨ra, hra⟩, u2, u3, u4, -⟩ := v5 c
        obtain ⟨sA, sB⟩ := f1 c
        have e39 := sA.1
        have e43 := sB.1
        have hra10 := (u2 ra hra).1
        have hrow : rowsOf D (k + 1) = rowsOf D k ||| (rbit (s_r (p_a (D k))) ||| rbit (s_r (p_b (D k)))) := by
          show rowsOf D k ||| (if p_f (D k) = 1 then _ else 0) = _
          rw [if_pos c]
        refine ⟨m + 39, q1.r39, by rw [q1.h39], by rw [q1.h39]; exact vp_in_nI (show k < 130 by omega) (by omega), m + 43, q1.r43, by rw [q1.h43], by rw [q1.h43]; exact vp_in_nI (show k < 130 by omega) (by omega), ?_⟩
        rw [hcq, h, hck, e39, e43, hra]
        have e2 : ((1 : Int32) <<< (nbI (Option.some ra) &&& 31)) = nI (2 ^ ra) := shl_rows ra (by omega)
        rw [e2]
        rw [hra] at hrow
        cases hrb : s_r (p_b (D k)) with
        | none =>
          rw [hrb] at hrow
          exact ⟨fun cc => absurd rfl cc, fun _ => by rw [show (0 : Int32) = nI 0 from rfl, nI_or]; exact next (2 ^ ra ||| 0) _ rfl hrow⟩
        | some rb =>
          rw [hrb] at hrow
          have hrb10 := (u3 rb hrb).1
          have e3 : ((1 : Int32) <<< (nbI (Option.some rb) &&& 31)) = nI (2 ^ rb) := shl_rows rb (by omega)
          refine ⟨fun _ => ?_, fun cc => absurd cc (nI_m1 (by omega))⟩
          rw [e3, nI_or]
          exact next (2 ^ ra ||| 2 ^ rb) _ rfl hrow
  exact key cnt 0 (by omega) M FrM.rf QuK.rf h11 none rfl
theorem ur_qdec (d : Nat) (hs : ReS M m) (hb : b = 2 ∨ b = 3) (h0 : x_i M m 0 = nI b) {q rc cnt : Nat} {R : Nat → Mc} {D : Nat → PD} (hq : q < 10) (hrc : rc ≤ 10) (hrow : ∀ i, i < rc → RowG b (R i) ∧ ReR M m i b (R i)) (hcnt : cnt ≤ 60) (hcnt0 : 0 < cnt) (h47 : x_i M m 47 = nI cnt) (hD : ∀ j, j < cnt → ReD M m D j ∧ PWf R rc D j) (hpp : ∀ j, j < cnt → p_p (D j) < 2 ^ 20) (hsp : x_i M (m + 8) q = -1)
    (hQs : ∀ M' Ms k, k < cnt → FrM M M' m [25, 26, 29, 78] [8, 12, 20, 21, 22, 23, 24, 25, 26, 27, 28, 29, 48, 49, 50, 51, 52, 53, 54, 55, 56, 57] → QuK M M' m q → x_i M' (m + 8) q = nI (p_p (D k)) → PUpto b R D Ms k → PSpec b R D Ms k none → Call G (d + 8) 0 0 mX12_done [.ref m, .int (nI q)] M' (fun r6 M7 => ∃ v8 : Int32, r6 = some (.int v8) ∧ Q (some (.int v8)) M7))
    (hQd : ∀ M' Ms, FrM M M' m [25, 26, 29, 78] [8, 12, 13, 14, 20, 21, 22, 23, 24, 25, 26, 27, 28, 29, 48, 49, 50, 51, 52, 53, 54, 55, 56, 57] → QuK M M' m q → x_i M' (m + 8) q = -1 → PUpto b R D Ms cnt → (∀ j, j < cnt → MsOK b D Ms j) → ReQ M' m q (fn b (p_s (D (cnt - 1)))) (Ms (cnt - 1)) → Call G (d + 8) 0 0 mX12_done [.ref m, .int (nI q)] M' (fun r6 M7 => ∃ v8 : Int32, r6 = some (.int v8) ∧ Q (some (.int v8)) M7)) :
    ∀ z, c1 z = true → LX12_question_200 G (d + 8) 0 0 m (nI q) (nI 0) z M Q := by
  have hcq : (nI q).toNatClampNeg = q := nI_clamp (by omega)
  have key : ∀ r k, k + r = cnt → ∀ M' (Ms : Nat → Mc), FrM M M' m [25, 26, 29, 78] [8, 20, 21, 22, 23, 24, 25, 26, 27, 28, 29, 48, 49, 50, 51, 52, 53, 54, 55, 56, 57] → QuK M M' m q → x_i M' (m + 8) q = -1 → PUpto b R D Ms k → (∀ j, j < k → MsOK b D Ms j ∧ ReP M' m j (fn b (p_s (D j))) (Ms j)) → ∀ z, c1 z = true → LX12_question_200 G (d + 8) 0 0 m (nI q) (nI k) z M' Q := by
    intro r
    induction r with
    | zero =>
      intro k hk M' Ms hfr hqk h8 hup hM z hz
      have e : k = cnt := by omega
      rw [e] at hup hM ⊢
      have q1 := hfr.S hs
      have e47 : x_i M' m 47 = nI cnt := by rw [hfr.fm (by decide)]; exact h47
      have el : nI cnt - 1 = nI (cnt - 1) := pk_sub (b := 1) hcnt0
      obtain ⟨⟨β, hc1, hc2, hc3⟩, hP⟩ := hM (cnt - 1) (by omega)
      refine vX12_question_200 _ _ _ _ hz ⟨q1.1, fun _ => ⟨m + 12, q1.r12, m + 48, q1.r48, by rw [q1.h48], ?_⟩, fun c => absurd (by rw [e47]; exact nI_le (Nat.le_refl _) (by omega)) c⟩
      rw [e47, el, nI_clamp (n := cnt - 1) (by omega), hcq, hP.1]
      refine ⟨by rw [q1.h48]; exact vp_in_nI (show cnt - 1 < 130 by omega) (by omega), by rw [q1.h12], by rw [q1.h12]; exact vp_in_nI hq (by omega), ?_⟩
      rintro M9 rfl
      have g9 : FrM M' (x_si M' (m + 12) q (nI (m_n (Ms (cnt - 1))))) m [] [12] := FrM.rf.si (by decide) (by decide)
      refine ur_qcopy d (g9.S q1) hq (by omega) (hP.fr g9 (by decide)) hc2 hc3 (by rw [xm_oo (by decide)]; exact h8) (fun M1 g1 k1 w1 w2 => ?_)
      refine hQd M1 Ms (((hfr.wk (by decide) (by decide)).tr g9 (by decide) (by decide)).tr g1 (by decide) (by decide)) ((hqk.tr (QuK.si (by omega) (by omega))).tr k1) (by rw [g1.i (by decide) (by decide), xm_oo (by decide)]; exact h8) hup (fun j hj => (hM j hj).1) ⟨by rw [g1.i (by decide) (by decide), xi_eq], w1, fun i hi k hk => w2 i hi k hk ?_⟩
      have := fn_27 hb (hD (cnt - 1) (by omega)).2.2.1
      omega
    | succ r ih =>
      intro k hk M' Ms hfr hqk h8 hup hM z hz
      have q1 := hfr.S hs
      have e47 : x_i M' m 47 = nI cnt := by rw [hfr.fm (by decide)]; exact h47
      have hck : (nI k).toNatClampNeg = k := nI_clamp (by omega)
      have hkc : k < cnt := by omega
      have vin8 : vp_in (nI q) 10 := vp_in_nI hq (by omega)
      refine vX12_question_200 _ _ _ _ hz ⟨q1.1, fun c => absurd (by rw [e47] at c; exact c) (nI_ge (a := k) (b := cnt) (by omega) (by omega)), fun _ => ⟨m + 8, q1.r8, by rw [q1.h8], by rw [q1.h8]; exact vin8, fun c => absurd (by rw [hcq]; exact h8) c, fun _ => ?_⟩⟩
      refine ur_machineOf d q1 hb (by rw [hfr.fm (by decide)]; exact h0) hrc (fun i hi => ⟨(hrow i hi).1, (hrow i hi).2.fr hfr (by decide)⟩) hcnt (fun j hj => ⟨(hD j hj).1.fr hfr (by decide), (hD j hj).2⟩) hkc hM (fun M1 res g1 g2 g3 g4 => ⟨_, rfl, fun c => ?_, fun c => ?_⟩)
      · cases res with
        | some mc => exact absurd c (by show ¬ nI 1 = 0; decide)
        | none =>
          have q2 := g1.S q1
          refine ⟨q2.1, m + 34, q2.r34, by rw [q2.h34], by rw [q2.h34]; exact vp_in_nI (show k < 130 by omega) (by omega), by rw [q2.h8], by rw [q2.h8]; exact vin8, ?_⟩
          rintro M31 rfl
          have e34 : x_i M1 (m + 34) k = nI (p_p (D k)) := by
            rw [g1.i (by decide) (by decide), hfr.i (by decide) (by decide)]; exact (hD k hkc).1.2.1
          rw [hcq, hck, e34, nI_1]
          have g31 : FrM M1 (x_si M1 (m + 8) q (nI (p_p (D k)))) m [] [8] := FrM.rf.si (by decide) (by decide)
          have hfr3 : FrM M (x_si M1 (m + 8) q (nI (p_p (D k)))) m [25, 26, 29, 78] [8, 12, 20, 21, 22, 23, 24, 25, 26, 27, 28, 29, 48, 49, 50, 51, 52, 53, 54, 55, 56, 57] := ((hfr.wk (by decide) (by decide)).tr g1 (by decide) (by decide)).tr g31 (by decide) (by decide)
          have hqk3 : QuK M (x_si M1 (m + 8) q (nI (p_p (D k)))) m q := (hqk.tr (QuK.of g1 (by decide))).tr (QuK.si (by omega) (by omega))
          generalize hM3 : x_si M1 (m + 8) q (nI (p_p (D k))) = M3 at *
          have e8 : x_i M3 (m + 8) q = nI (p_p (D k)) := by rw [← hM3, xi_eq]
          have q3 := hfr3.S hs
          have e473 : x_i M3 m 47 = nI cnt := by rw [hfr3.fm (by decide)]; exact h47
          have el : nI cnt - 1 = nI (cnt - 1) := pk_sub (b := 1) hcnt0
          have hne : ¬ nI (p_p (D k)) = -1 := nI_m1 (by have := hpp k hkc; omega)
          have fin : ∀ M4, M4 = x_si M3 (m + 12) q (x_i M3 (m + 48) (cnt - 1)) → LX12_question_269 G (d + 8) 0 0 m (nI q) (nI (cnt - 1)) 0 none M4 Q := by
            rintro M4 rfl
            have g4 : FrM M3 (x_si M3 (m + 12) q (x_i M3 (m + 48) (cnt - 1))) m [] [12] := FrM.rf.si (by decide) (by decide)
            have q4 := g4.S q3
            have e84 : x_i (x_si M3 (m + 12) q (x_i M3 (m + 48) (cnt - 1))) (m + 8) q = nI (p_p (D k)) := by rw [xm_oo (by decide)]; exact e8
            have dn := hQs _ Ms k hkc (hfr3.tr g4 (by decide) (by decide)) (hqk3.tr (QuK.si (by omega) (by omega))) e84 hup g3
            exact vX12_question_269 _ _ _ _ _ rfl ⟨q4.1, m + 48, q4.r48, by rw [q4.h48], by rw [q4.h48]; exact vp_in_nI (show cnt - 1 < 130 by omega) (by omega), fun _ => dn, fun _ => ⟨m + 8, q4.r8, by rw [q4.h8], by rw [q4.h8]; exact vin8, fun _ => dn, fun c => absurd (by rw [hcq, e84] at c; exact c) hne⟩⟩
          refine vX12_question_200 _ _ _ _ hz ⟨q3.1, fun _ => ⟨m + 12, q3.r12, m + 48, q3.r48, by rw [q3.h48], ?_⟩, fun _ => ⟨m + 8, q3.r8, by rw [q3.h8], by rw [q3.h8]; exact vin8, fun _ => ⟨m + 12, q3.r12, m + 48, q3.r48, by rw [q3.h48], ?_⟩, fun c => absurd (by rw [hcq, e8] at c; exact c) hne⟩⟩
          · rw [e473, el, nI_clamp (n := cnt - 1) (by omega), hcq]
            exact ⟨by rw [q3.h48]; exact vp_in_nI (show cnt - 1 < 130 by omega) (by omega), by rw [q3.h12], by rw [q3.h12]; exact vin8, fin⟩
          · rw [e473, el, nI_clamp (n := cnt - 1) (by omega), hcq]
            exact ⟨by rw [q3.h48]; exact vp_in_nI (show cnt - 1 < 130 by omega) (by omega), by rw [q3.h12], by rw [q3.h12]; exact vin8, fin⟩
      · cases res with
        | none => exact absurd rfl c
        | some mc =>
          have q2 := g1.S q1
          refine ⟨by rw [q2.h8], by rw [q2.h8]; exact vin8, ?_⟩
          rintro M34 rfl
          rw [hcq, nI_1]
          have g31 : FrM M1 (x_si M1 (m + 8) q (-1)) m [] [8] := FrM.rf.si (by decide) (by decide)
          have hagree : ∀ j, j < k → Ms j = (fun j => if j = k then mc else Ms j) j := fun j hj => (if_neg (by omega)).symm
          have hk' : (fun j => if j = k then mc else Ms j) k = mc := if_pos rfl
          have hs3 := g3.cong (hD k hkc).2 hagree
          refine ih (k + 1) (by omega) _ (fun j => if j = k then mc else Ms j) ((hfr.tr g1 (by decide) (by decide)).tr g31 (by decide) (by decide)) ((hqk.tr (QuK.of g1 (by decide))).tr (QuK.si (by omega) (by omega))) xi_eq (fun j hj => ?_) (fun j hj => ?_) z hz
          · by_cases e : j = k
            · subst e; rw [hk']; exact hs3
            · have := (hup j (by omega)).cong (hD j (by omega)).2 (fun j' hj' => hagree j' (by omega))
              rw [hagree j (by omega)] at this
              exact this
          · by_cases e : j = k
            · subst e
              refine ⟨?_, ?_⟩
              · unfold MsOK; rw [hk']; exact g3.ok (by omega) (hD j (by omega)).2 (fun j' hj' => (hM j' hj').1)
              · show ReP _ m j _ (if j = j then mc else Ms j); rw [if_pos rfl]; exact (g4 mc rfl).fr g31 (by decide)
            · obtain ⟨x1, x2⟩ := hM j (by omega)
              have e2 : (fun j => if j = k then mc else Ms j) j = Ms j := if_neg e
              have x1' := x1
              obtain ⟨β, c1, c2, c3⟩ := x1'
              refine ⟨?_, ?_⟩
              · unfold MsOK; rw [e2]; exact x1
              · show ReP _ m j _ (if j = k then mc else Ms j); rw [if_neg e]; exact (g2 j _ _ e c2 (fn_27 hb (hD j (by omega)).2.2.1) x2).fr g31 (by decide)
  exact key cnt 0 (by omega) M (fun _ => (0, fun _ _ => 0, fun _ => 0)) FrM.rf QuK.rf hsp (fun j hj => absurd hj (Nat.not_lt_zero j)) (fun j hj => absurd hj (Nat.not_lt_zero j))
end RDecC
