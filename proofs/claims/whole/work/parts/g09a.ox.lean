/-! ===== the ops once more, as the law wants them ===== -/
section OpsLaw
variable {G : GG} {M M' : Mem} {e m b : Nat} {S S' : Sg} {R K R' K' : Nat → Mc} {Q : Option Value → Mem → Prop}
def COi (G : GG) (d e m : Nat) (md md' : MD) (as : List Value) : Prop := ∀ M, CRel M e m → Call G d 0 0 md (.ref e :: as) M (fun r M1 => ∃ v : Int32, r = some (.int v) ∧ (x_h M1 m).1 = 28 ∧ Call G d 0 0 md' (.ref m :: as) M1 (fun r2 M2 => r2 = some (.int v) ∧ CRel M2 e m))
def COl (G : GG) (d e m : Nat) (md md' : MD) (as : List Value) : Prop := ∀ M, CRel M e m → Call G d 0 0 md (.ref e :: as) M (fun r M1 => ∃ v : Int64, r = some (.long v) ∧ (x_h M1 m).1 = 28 ∧ Call G d 0 0 md' (.ref m :: as) M1 (fun r2 M2 => r2 = some (.long v) ∧ CRel M2 e m))
theorem CRel.h28 (h : CRel M e m) : (x_h M m).1 = 28 := by
  obtain ⟨-, S, R, K, -, -, -, hRe⟩ := h.one
  exact hRe.1.1
theorem CRel.h27 (h : CRel M e m) : (x_h M e).1 = 27 := by
  obtain ⟨-, S, R, K, -, -, hCo, -⟩ := h.one
  exact hCo.1.1
theorem ox_question (d : Nat) (hSO : SOK G) : COi G (d + 1471) e m mX11_question mX12_question [] := by
  rintro M ⟨hem, S, R, K, R', K', hW, hM, hM', hE, hC, hR⟩
  have hC0 := hC
  have hR0 := hR
  obtain ⟨cS, cB, cT, cH, cR, cQ, cA⟩ := hC
  refine w_question (d + 21) hSO cS hW hM cB cT cR (fun hq => ?_) (fun hq M1 k Ms g ⟨f11, f12, f13, f14, f15⟩ hD hK => ?_)
  · have hR1 : ReAll (x_si (x_si M e 14 0) e 15 2) m S R' K' := hR0.up rfl rfl (fun q hq => by funext j; rw [xi_na (by omega), xi_na (by omega)])
    obtain ⟨rS, rB, rT, rH, rR, rQ, rA⟩ := hR1
    refine ⟨_, rfl, (by first | exact hC0.h28 | exact hC1.h28 | (rw [g.h]; exact hC0.h28) | (rw [fr.h]; exact hC0.h28) | (rw [hA.1]; exact hC0.h28) | exact rS.1), ur_question d rS hW hM' rB rT rR (fun _ => ⟨rfl, hem, clT S 2, R, K, R', K', ?_, hM, hM', hE, ?_, ?_⟩) (fun z => absurd z (by omega))⟩
    · obtain ⟨W1, W2, W3, W4⟩ := hW
      exact ⟨W1, Nat.zero_le _, fun i hi => absurd hi (Nat.not_lt_zero i), W4⟩
    · have hCm : CoAll (x_si (x_si M e 14 0) e 15 2) e (clT S 2) R K := by
        have o : ∀ q, q ≠ e → x_i (x_si (x_si M e 14 0) e 15 2) q = x_i M q := fun q hq => by funext j; rw [xi_na hq, xi_na hq]
        obtain ⟨b1, b2, b3, b4, b5⟩ := cB
        refine ⟨cS.eq rfl rfl, ⟨?_, ?_, ?_, ?_, xi_eq⟩, fun i hi => absurd hi (Nat.not_lt_zero i), ⟨fun s hs => ?_, fun i hi => ?_⟩, fun i hi => ?_, fun k hk => ?_, ?_⟩
        · rw [xi_nk (by omega), xi_nk (by omega)]; exact b1
        · rw [xi_nk (by omega), xi_nk (by omega)]; exact b2
        · rw [xi_nk (by omega), xi_nk (by omega)]; exact b3
        · rw [xi_nk (by omega), xi_eq]; rfl
        · rw [o _ (by omega), o _ (by omega), o _ (by omega)]; exact cH.1 s hs
        · rw [o _ (by omega)]; exact cH.2 i hi
        · have := cR i hi
          unfold RowI LeI at this ⊢
          rw [o _ (by omega), o _ (by omega), o _ (by omega), o _ (by omega)]; exact this
        · have := cQ k hk
          unfold CoK LeI at this ⊢
          rw [o _ (by omega), o _ (by omega), o _ (by omega), o _ (by omega)]; exact this
        · have := cA
          unfold CoA at this ⊢
          rw [o _ (by omega), o _ (by omega)]; exact this
      exact hCm.fM (F := [18, 22]) (A := []) (by
        obtain ⟨W1, W2, W3, W4⟩ := hW
        exact ⟨W1, Nat.zero_le _, fun i hi => absurd hi (Nat.not_lt_zero i), W4⟩) hem ((FrM.rf.sm (by decide)).sm (by decide))
    · obtain ⟨b0, b1, b7, b18, b22, b24⟩ := rB
      have gM : FrM (x_si (x_si M e 14 0) e 15 2) (x_si (x_si (x_si (x_si M e 14 0) e 15 2) m 18 0) m 22 2) m [18, 22] [] := (FrM.rf.sm (by decide)).sm (by decide)
      have o : ∀ x, x ≠ 0 → x_i (x_si (x_si (x_si (x_si M e 14 0) e 15 2) m 18 0) m 22 2) (m + x) = x_i (x_si (x_si M e 14 0) e 15 2) (m + x) := fun x hx => gM.i hx (by simp)
      refine ⟨gM.S rS, ⟨by rw [gM.fm (by decide)]; exact b0, by rw [gM.fm (by decide)]; exact b1, by rw [gM.fm (by decide)]; exact b7, by rw [xi_nk (by omega), xi_eq]; rfl, xi_eq, by rw [gM.fm (by decide)]; exact b24⟩, fun i hi => absurd hi (Nat.not_lt_zero i), fun s hs => ?_, fun i hi => ?_, fun k hk => ?_, fun j hj => ?_⟩
      · rw [o 16 (by omega), o 17 (by omega), o 18 (by omega)]; exact rH s hs
      · have := rR i hi
        unfold ReR at this ⊢
        rw [o 1 (by omega), o 2 (by omega), o 3 (by omega), o 4 (by omega), o 5 (by omega)]; exact this
      · have := rQ k hk
        unfold ReK ReQ at this ⊢
        rw [o 6 (by omega), o 7 (by omega), o 8 (by omega), o 9 (by omega), o 10 (by omega), o 11 (by omega), o 12 (by omega), o 13 (by omega), o 14 (by omega)]; exact this
      · rw [o 19 (by omega)]; exact rA j hj
  · have hR1 : ReAll M1 m S R' K' := by
      refine hR0.up g.h ?_ (fun q hq => g.i (by unfold QPF; omega))
      rw [g.r]
      funext j
      unfold rdM
      rw [xr_o (by omega), xr_o (by omega)]
    have hC1 := hC0.addQ hW hq g f11 f12 f13 f14 f15 hK
    obtain ⟨rS, rB, rT, rH, rR, rQ, rA⟩ := hR1
    refine ⟨_, rfl, (by first | exact hC0.h28 | exact hC1.h28 | (rw [g.h]; exact hC0.h28) | (rw [fr.h]; exact hC0.h28) | (rw [hA.1]; exact hC0.h28) | exact rS.1), ur_question d rS hW hM' rB rT rR (fun z => absurd z (by omega)) (fun _ M2 k' Ms' g2 kq ⟨h7, h18, h22⟩ hD' hK' => ?_)⟩
    have hqq : quR S R' = quR S R := (quR_eq hE.1).symm
    rw [hqq] at hD' hK'
    obtain ⟨s1, s2⟩ := addQ_W hW hM hq hD
    have hD'' : ∀ a s, quR S R' = .inr (a, s) → (ftR (quR S R')).1 = 0 → DecO (y_b S) R' (q_D s) (q_c s) k' Ms' := by rw [hqq]; exact hD'
    have hs3 := addQ_W hW hM' hq hD''
    rw [hqq] at hs3
    have same : quD (quR S R) k' = quD (quR S R) k ∧ ((ftR (quR S R)).1 = 0 → qd_s (quD (quR S R) k) = none → meq (fn (y_b S) (qd_n (quD (quR S R) k))) (lastM (quR S R) Ms) (lastM (quR S R) Ms')) := by
      by_cases z : (ftR (quR S R)).1 = 0
      · obtain ⟨a, s, hr, k1, k2, k3, k4⟩ := rd_ok (R := R) (wd := fun i => m_n (R i)) (rc := y_rc S) (t := y_t S) (fun i => rfl) hW.2.1 z
        have hr' : quR S R = .inr (a, s) := hr
        obtain ⟨d1, d2⟩ := dec_same hW.1 (fun j hj => (k3 j hj).2) (fun q hq => ⟨hM.1 q hq, hE.2.1 q hq⟩) (hD a s hr' z) (hD' a s hr' z)
        subst d1
        refine ⟨rfl, fun _ hs => ?_⟩
        have ez := z
        rw [hr'] at ez
        have eD : quD (quR S R) k = ((ftR (quR S R)).1, (ftR (quR S R)).2, (if (ftR (quR S R)).1 = 0 then k.map (fun j => p_p (q_D s j)) else none), p_s (q_D s (q_c s - 1)), q_c s, rowsOf (q_D s) (q_c s)) := by rw [hr']; rfl
        have hk : k = none := by
          rw [eD] at hs
          have hs' : (if (ftR (quR S R)).1 = 0 then k.map (fun j => p_p (q_D s j)) else none) = none := hs
          rw [if_pos z] at hs'
          cases k with
          | none => rfl
          | some k => cases hs'
        have := (d2 hk (q_c s - 1) (by omega)).2
        rw [eD, hr']
        exact this
      · exact ⟨quD_no z, fun z2 => absurd z2 z⟩
    obtain ⟨e1, e2⟩ := same
    rw [e1] at hK' hs3
    have hR2 := ReAll.addQ (R := R') (K := K') ⟨rS, rB, rT, rH, rR, rQ, rA⟩ hW hM' hq g2 kq h7 h18 h22 hK'
    refine ⟨rfl, hem, addQ S (quD (quR S R) k), R, adK_ S K (lastM (quR S R) Ms), R', adK_ S K' (lastM (quR S R) Ms'), s1, s2, hs3.2, ⟨hE.1, hE.2.1, fun j hj hf hs => ?_⟩, hC1.fM s1 hem g2, hR2⟩
    have hj' : j < y_qc S + 1 := hj
    by_cases c : j = y_qc S
    · subst c
      have eq1 : y_q (addQ S (quD (quR S R) k)) (y_qc S) = quD (quR S R) k := if_pos rfl
      have eK : ∀ (K : Nat → Mc) x, adK_ S K x (y_qc S) = x := fun K x => if_pos rfl
      rw [eq1] at hf hs ⊢
      rw [eK, eK]
      exact e2 ((quD_f (res := quR S R) (k := k)).1.symm.trans hf) hs
    · have eq0 : y_q (addQ S (quD (quR S R) k)) j = y_q S j := if_neg c
      have eK : ∀ (K : Nat → Mc) x, adK_ S K x j = K j := fun K x => if_neg c
      rw [eq0] at hf hs ⊢
      rw [eK, eK]
      exact hE.2.2 j (by omega) hf hs
theorem ox_kind (d : Nat) {x : Int32} : COi G (d + 3) e m mX11_kind mX12_kind [.int x] := by
  intro M hC0
  obtain ⟨hem, S, R, K, hW, hM, ⟨cS, cB, cT, cH, cR, cQ, cA⟩, ⟨rS, rB, rT, rH, rR, rQ, rA⟩⟩ := hC0.one
  obtain ⟨a1, a2, a3, a4, a5, a6, a7, a8, a9, a10, a11, a12, b1, b2, -⟩ := cS
  have hrc := hW.2.2.2.2.1
  refine w_kind (d + 1) a1 a2 b1 cB.2.1 hrc (fun h => ⟨_, rfl, (by first | exact hC0.h28 | exact hC1.h28 | (rw [g.h]; exact hC0.h28) | (rw [fr.h]; exact hC0.h28) | (rw [hA.1]; exact hC0.h28) | exact rS.1), ur_kind d rS rB.2.1 hrc (fun _ => ⟨rfl, hC0⟩) (fun k hk ek => absurd ek (h k hk))⟩) (fun k hk ek => ⟨_, rfl, (by first | exact hC0.h28 | exact hC1.h28 | (rw [g.h]; exact hC0.h28) | (rw [fr.h]; exact hC0.h28) | (rw [hA.1]; exact hC0.h28) | exact rS.1), ur_kind d rS rB.2.1 hrc (fun h => absurd ek (h k hk)) (fun k' hk' ek' => ?_)⟩)
  have := nI_same ek ek' (by omega) (by omega)
  subst this
  exact ⟨by rw [(cR k hk).1, (rR k hk).1], hC0⟩
theorem ox_width (d : Nat) {x : Int32} : COi G (d + 3) e m mX11_width mX12_width [.int x] := by
  intro M hC0
  obtain ⟨hem, S, R, K, hW, hM, ⟨cS, cB, cT, cH, cR, cQ, cA⟩, ⟨rS, rB, rT, rH, rR, rQ, rA⟩⟩ := hC0.one
  obtain ⟨a1, a2, a3, a4, a5, a6, a7, a8, a9, a10, a11, a12, b1, b2, -⟩ := cS
  have hrc := hW.2.2.2.2.1
  refine w_width (b := y_b S) (d + 1) a1 a2 b1 cB.2.1 hrc (fun i hi => (cR i hi).2.2) (fun h => ⟨_, rfl, (by first | exact hC0.h28 | exact hC1.h28 | (rw [g.h]; exact hC0.h28) | (rw [fr.h]; exact hC0.h28) | (rw [hA.1]; exact hC0.h28) | exact rS.1), ur_width d rS rB.2.1 hrc (fun _ => ⟨rfl, hC0⟩) (fun k hk ek => absurd ek (h k hk))⟩) (fun k hk ek => ⟨_, rfl, (by first | exact hC0.h28 | exact hC1.h28 | (rw [g.h]; exact hC0.h28) | (rw [fr.h]; exact hC0.h28) | (rw [hA.1]; exact hC0.h28) | exact rS.1), ur_width d rS rB.2.1 hrc (fun h => absurd ek (h k hk)) (fun k' hk' ek' => ?_)⟩)
  have := nI_same ek ek' (by omega) (by omega)
  subst this
  exact ⟨by rw [(rR k hk).2.2.1], hC0⟩
theorem ox_takes (d : Nat) {x y : Int32} : COi G (d + 3) e m mX11_takes mX12_takes [.int x, .int y] := by
  intro M hC0
  obtain ⟨hem, S, R, K, hW, hM, ⟨cS, cB, cT, cH, cR, cQ, cA⟩, ⟨rS, rB, rT, rH, rR, rQ, rA⟩⟩ := hC0.one
  obtain ⟨a1, a2, a3, a4, a5, a6, a7, a8, a9, a10, a11, a12, b1, b2, -⟩ := cS
  have hqc := hW.2.2.2.2.2.2.1
  have t1 : ∀ k, k < y_qc S → (x_i M (e + 540 + 8 * k) 1 = 0 ↔ x_i M (m + 6) k = 0) := fun k hk => (ask_c hW cQ hk).1.trans (ask_r hW rQ hk).1.symm
  have t2 : ∀ k, k < y_qc S → (x_i M (e + 540 + 8 * k) 3 = -1 ↔ x_i M (m + 8) k = -1) := fun k hk => (ask_c hW cQ hk).2.trans (ask_r hW rQ hk).2.symm
  have okr : ∀ k, k < y_qc S → x_i M (m + 6) k = 0 → x_i M (m + 8) k = -1 → ReQ M m k (fn (y_b S) (qd_n (y_q S k))) (K k) ∧ m_n (K k) ≤ 40 ∧ ∀ i, i < m_n (K k) → m_k (K k) i ≤ 1 := fun k hk g1 g2 => ⟨(ok_r hW hM rQ hk g1 g2).1, (ok_r hW hM rQ hk g1 g2).2.1.2.1, (ok_r hW hM rQ hk g1 g2).2.1.2.2.1⟩
  refine w_takes d a1 a3 b2 cB.2.2.1 hqc (ff := fun k => fn (y_b S) (qd_n (y_q S k))) (mq := K) (fun k hk g1 g2 => ⟨(ok_c hW hM cQ hk g1 g2).1, (ok_c hW hM cQ hk g1 g2).2.1.2.1⟩) (fun h => ⟨_, rfl, (by first | exact hC0.h28 | exact hC1.h28 | (rw [g.h]; exact hC0.h28) | (rw [fr.h]; exact hC0.h28) | (rw [hA.1]; exact hC0.h28) | exact rS.1), ur_takes d rS rB.2.2.1 hqc okr (fun _ => ⟨rfl, hC0⟩) (fun k hk ek g1 g2 i hi ei => absurd ei (h k hk ek ((t1 k hk).mpr g1) ((t2 k hk).mpr g2) i hi))⟩) (fun k hk ek g1 g2 i hi ei => ⟨_, rfl, (by first | exact hC0.h28 | exact hC1.h28 | (rw [g.h]; exact hC0.h28) | (rw [fr.h]; exact hC0.h28) | (rw [hA.1]; exact hC0.h28) | exact rS.1), ur_takes d rS rB.2.2.1 hqc okr (fun h => absurd ei (h k hk ek ((t1 k hk).mp g1) ((t2 k hk).mp g2) i hi)) (fun k' hk' ek' g1' g2' i' hi' ei' => ?_)⟩)
  have := nI_same ek ek' (by omega) (by omega)
  subst this
  have h40 := (okr k hk g1' g2').2.1
  have := nI_same ei ei' (by omega) (by omega)
  subst this
  exact ⟨rfl, hC0⟩
theorem ox_step (d : Nat) {x y z : Int32} : COi G (d + 3) e m mX11_step mX12_step [.int x, .int y, .int z] := by
  intro M hC0
  obtain ⟨hem, S, R, K, hW, hM, ⟨cS, cB, cT, cH, cR, cQ, cA⟩, ⟨rS, rB, rT, rH, rR, rQ, rA⟩⟩ := hC0.one
  obtain ⟨a1, a2, a3, a4, a5, a6, a7, a8, a9, a10, a11, a12, b1, b2, -⟩ := cS
  have hqc := hW.2.2.2.2.2.2.1
  have t1 : ∀ k, k < y_qc S → (x_i M (e + 540 + 8 * k) 1 = 0 ↔ x_i M (m + 6) k = 0) := fun k hk => (ask_c hW cQ hk).1.trans (ask_r hW rQ hk).1.symm
  have t2 : ∀ k, k < y_qc S → (x_i M (e + 540 + 8 * k) 3 = -1 ↔ x_i M (m + 8) k = -1) := fun k hk => (ask_c hW cQ hk).2.trans (ask_r hW rQ hk).2.symm
  have okr : ∀ k, k < y_qc S → x_i M (m + 6) k = 0 → x_i M (m + 8) k = -1 → x_i M (m + 9) k = nI (qd_n (y_q S k)) ∧ qd_n (y_q S k) < 256 ∧ fn (y_b S) (qd_n (y_q S k)) ≤ 27 ∧ ReQ M m k (fn (y_b S) (qd_n (y_q S k))) (K k) ∧ m_n (K k) ≤ 40 := fun k hk g1 g2 => by
    obtain ⟨o1, o2, o3, o4, o5, o6⟩ := ok_r hW hM rQ hk g1 g2
    exact ⟨o3, o4, o6, o1, o2.2.1⟩
  refine w_step d a1 a3 b2 cB.2.2.1 hqc (ff := fun k => fn (y_b S) (qd_n (y_q S k))) (mq := K) (fun k hk g1 g2 => ⟨(ok_c hW hM cQ hk g1 g2).1, (ok_c hW hM cQ hk g1 g2).2.1.2.1, (ok_c hW hM cQ hk g1 g2).2.2.2.2.2⟩) (fun h => ⟨_, rfl, (by first | exact hC0.h28 | exact hC1.h28 | (rw [g.h]; exact hC0.h28) | (rw [fr.h]; exact hC0.h28) | (rw [hA.1]; exact hC0.h28) | exact rS.1), ur_step (nf := fun k => qd_n (y_q S k)) d rS rB.1 rB.2.2.1 hqc okr (fun _ => ⟨rfl, hC0⟩) (fun k hk ek g1 g2 i hi ei g hg eg => ?_)⟩) (fun k hk ek g1 g2 i hi ei g hg eg => ⟨_, rfl, (by first | exact hC0.h28 | exact hC1.h28 | (rw [g.h]; exact hC0.h28) | (rw [fr.h]; exact hC0.h28) | (rw [hA.1]; exact hC0.h28) | exact rS.1), ur_step (nf := fun k => qd_n (y_q S k)) d rS rB.1 rB.2.2.1 hqc okr (fun h => ?_) (fun k' hk' ek' g1' g2' i' hi' ei' g' hg' eg' => ?_)⟩)
  · rcases h k hk ek ((t1 k hk).mpr g1) ((t2 k hk).mpr g2) with c | c
    · exact absurd ei (c i hi)
    · exact absurd eg (c g hg)
  · rcases h k hk ek ((t1 k hk).mp g1) ((t2 k hk).mp g2) with c | c
    · exact absurd ei (c i hi)
    · exact absurd eg (c g hg)
  have := nI_same ek ek' (by omega) (by omega)
  subst this
  have h40 := (okr k hk g1' g2').2.2.2.2
  have h27 := (okr k hk g1' g2').2.2.1
  have := nI_same ei ei' (by omega) (by omega)
  subst this
  have := nI_same eg eg' (by omega) (by omega)
  subst this
  exact ⟨rfl, hC0⟩
theorem ox_letter (d : Nat) {x : Int32} {a : Int64} : COi G (d + 4) e m mX11_letter mX12_letter [.int x, .long a] := by
  intro M hC0
  obtain ⟨hem, S, R, K, hW, hM, ⟨cS, cB, cT, cH, cR, cQ, cA⟩, ⟨rS, rB, rT, rH, rR, rQ, rA⟩⟩ := hC0.one
  obtain ⟨a1, a2, a3, a4, a5, a6, a7, a8, a9, a10, a11, a12, b1, b2, -⟩ := cS
  have hrc := hW.2.2.2.2.1
  have hb := hW.1
  refine w_letter (b := y_b S) (R := R) d a1 hb a2 b1 cB.1 cB.2.1 hrc (fun i hi => ⟨hM.1 i hi, (cR i hi).2.2⟩) (fun h => ⟨_, rfl, (by first | exact hC0.h28 | exact hC1.h28 | (rw [g.h]; exact hC0.h28) | (rw [fr.h]; exact hC0.h28) | (rw [hA.1]; exact hC0.h28) | exact rS.1), ur_letter (b := y_b S) (R := R) (d + 1) rS (by omega) (by omega) rB.1 rB.2.1 hrc (fun i hi => ⟨hM.1 i hi, (rR i hi).2.2⟩) (fun _ => ⟨rfl, hC0⟩) (fun k hk ek v hv ev => ?_)⟩) (fun k hk ek v hv ev => ⟨_, rfl, (by first | exact hC0.h28 | exact hC1.h28 | (rw [g.h]; exact hC0.h28) | (rw [fr.h]; exact hC0.h28) | (rw [hA.1]; exact hC0.h28) | exact rS.1), ur_letter (b := y_b S) (R := R) (d + 1) rS (by omega) (by omega) rB.1 rB.2.1 hrc (fun i hi => ⟨hM.1 i hi, (rR i hi).2.2⟩) (fun h => ?_) (fun k' hk' ek' v' hv' ev' M1 g => ?_)⟩)
  · rcases h with c | c
    · exact absurd ek (c k hk)
    · exact absurd ev (c v hv)
  · rcases h with c | c
    · exact absurd ek (c k hk)
    · exact absurd ev (c v hv)
  have := nI_same ek ek' (by omega) (by omega)
  subst this
  have : v = v' := (pk_lEQ (by omega) (by omega)).mp (ev.symm.trans ev')
  subst this
  exact ⟨rfl, hC0.fM g (by simp) (by simp)⟩
end OpsLaw
