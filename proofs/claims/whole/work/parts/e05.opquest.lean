/-! ===== question: both alike ===== -/
section OpQuest
variable {G : GG} {M : Mem} {e m : Nat} {S : Sg} {R K R' K' : Nat → Mc} {Q : Option Value → Mem → Prop}
theorem quR_eq (h : ∀ i, m_n (R i) = m_n (R' i)) : quR S R = quR S R' := by
  unfold quR
  rw [show (fun i => m_n (R i)) = (fun i => m_n (R' i)) from funext h]
theorem quD_no {res : PRt} {k k' : Option Nat} (h : (ftR res).1 ≠ 0) : quD res k = quD res k' := by
  cases res with
  | inl p => rfl
  | inr as =>
    obtain ⟨a, s⟩ := as
    show (_, _, (if (ftR (.inr (a, s))).1 = 0 then _ else _), _, _, _) = (_, _, (if (ftR (.inr (a, s))).1 = 0 then _ else _), _, _, _)
    rw [if_neg h, if_neg h]
theorem CoAll.addQ {M1 : Mem} {q : Qd} {x : Mc} (h : CoAll M e S R K) (hW : SgW S) (hq : y_qc S < 10) (g : FrP (rdM M (e + 14) (e + 15) (e + 3) (e + 1)) M1 (QPF e (y_qc S))) (f11 : x_i M1 e 11 = nI (y_b S)) (f12 : x_i M1 e 12 = nI (y_rc S)) (f13 : x_i M1 e 13 = nI (y_qc S + 1)) (f14 : x_i M1 e 14 = 0) (f15 : x_i M1 e 15 = 0) (hK : CoK M1 e (y_b S) (y_qc S) q x) : CoAll M1 e (addQ S q) R (adK_ S K x) := by
  obtain ⟨a1, a2, a3, a4, a5, a6, a7⟩ := h
  have hrc := hW.2.2.2.2.1
  have o : ∀ y, ¬ QPF e (y_qc S) y → x_i M1 y = x_i M y := fun y hy => g.i hy
  refine ⟨(a1.rd (tx := e + 3) (ra := e + 1)).eq g.h g.r, ⟨f11, f12, f13, f14, f15⟩, fun i hi => absurd hi (Nat.not_lt_zero i), ⟨fun s hs => ?_, fun i hi => ?_⟩, fun i hi => ?_, fun k hk => ?_, ?_⟩
  · rw [o (e + 11) (by unfold QPF; omega), o (e + 12) (by unfold QPF; omega), o (e + 5 + s) (by unfold QPF; omega)]
    exact a4.1 s hs
  · rw [o (e + 13) (by unfold QPF; omega)]
    exact a4.2 i hi
  · have hi' : i < y_rc S := hi
    have := a5 i hi'
    unfold RowI LeI at this ⊢
    rw [o (e + 536 + 8 * i) (by unfold QPF; omega), o (e + 536 + 8 * i + 1) (by unfold QPF; omega), o (e + 536 + 8 * i + 2) (by unfold QPF; omega), o (e + 536 + 8 * i + 3) (by unfold QPF; omega)]
    exact this
  · have hk' : k < y_qc S + 1 := hk
    show CoK M1 e (y_b S) k (if k = y_qc S then q else y_q S k) (if k = y_qc S then x else K k)
    by_cases c : k = y_qc S
    · rw [if_pos c, if_pos c, c]; exact hK
    · rw [if_neg c, if_neg c]
      have := a6 k (by omega)
      unfold CoK LeI at this ⊢
      rw [o (e + 540 + 8 * k) (by unfold QPF; omega), o (e + 540 + 8 * k + 1) (by unfold QPF; omega), o (e + 540 + 8 * k + 2) (by unfold QPF; omega), o (e + 540 + 8 * k + 3) (by unfold QPF; omega)]
      exact this
  · have := a7
    unfold CoA at this ⊢
    rw [o (e + 534) (by unfold QPF; omega), o (e + 535) (by unfold QPF; omega)]
    exact this
theorem ReAll.addQ {M1 : Mem} {q : Qd} {x : Mc} (h : ReAll M m S R K) (hW : SgW S) (hM : MaW S R K) (hq : y_qc S < 10) (g : FrM M M1 m FQr AQr) (kq : QuK M M1 m (y_qc S)) (f7 : x_i M1 m 7 = nI (y_qc S + 1)) (f18 : x_i M1 m 18 = 0) (f22 : x_i M1 m 22 = 0) (hK : ReK M1 m (y_b S) (y_qc S) q x) : ReAll M1 m (addQ S q) R (adK_ S K x) := by
  obtain ⟨a1, ⟨b0, b1, b7, b18, b22, b24⟩, a3, a4, a5, a6, a7⟩ := h
  have hb := hW.1
  refine ⟨g.S a1, ⟨by rw [g.fm (by decide)]; exact b0, by rw [g.fm (by decide)]; exact b1, f7, f18, f22, by rw [g.fm (by decide)]; exact b24⟩, fun i hi => absurd hi (Nat.not_lt_zero i), fun s hs => ?_, fun i hi => ?_, fun k hk => ?_, fun j hj => ?_⟩
  · rw [g.i (by omega) (by decide), g.i (by omega) (by decide), g.i (by omega) (by decide)]
    exact a4 s hs
  · have hi' : i < y_rc S := hi
    have := a5 i hi'
    unfold ReR at this ⊢
    rw [g.i (by omega) (by decide), g.i (by omega) (by decide), g.i (by omega) (by decide), g.i (by omega) (by decide), g.i (by omega) (by decide)]
    exact this
  · have hk' : k < y_qc S + 1 := hk
    show ReK M1 m (y_b S) k (if k = y_qc S then q else y_q S k) (if k = y_qc S then x else K k)
    by_cases c : k = y_qc S
    · rw [if_pos c, if_pos c, c]; exact hK
    · rw [if_neg c, if_neg c]
      obtain ⟨c1, c2, c3, c4, c5⟩ := a6 k (by omega)
      obtain ⟨k1, -, -⟩ := id kq
      refine ⟨by rw [k1 6 (by omega) (by omega) k c]; exact c1, by rw [k1 7 (by omega) (by omega) k c]; exact c2, by rw [k1 8 (by omega) (by omega) k c]; exact c3, fun z => ⟨by rw [k1 9 (by omega) (by omega) k c]; exact (c4 z).1, by rw [k1 10 (by omega) (by omega) k c]; exact (c4 z).2.1, by rw [k1 11 (by omega) (by omega) k c]; exact (c4 z).2.2⟩, fun z1 z2 => ?_⟩
      have hg := hM.2 k (by omega) z1 z2
      have hpc := ((hW.2.2.2.2.2.2.2.1 k (by omega)).2.2.2 z1).2.1
      exact kq.keep c hg.2.1 (fn_27 hb hpc) (c5 z1 z2)
  · rw [g.i (by omega) (by decide)]
    exact a7 j hj
def clT (S : Sg) (st : Int32) : Sg := (y_b S, 0, y_t S, y_so S, y_sz S, y_cf S, y_rc S, y_kd S, y_oq S, y_qc S, y_q S, y_tr S, st)
theorem op_question (d : Nat) (hSO : SOK G) : COp G (d + 1471) e m mX11_question mX12_question [] := by
  rintro M ⟨hem, S, R, K, R', K', hW, hM, hM', hE, hC, hR⟩
  have hC0 := hC
  have hR0 := hR
  obtain ⟨cS, cB, cT, cH, cR, cQ, cA⟩ := hC
  refine w_question (d + 21) hSO cS hW hM cB cT cR (fun hq => ?_) (fun hq M1 k Ms g ⟨f11, f12, f13, f14, f15⟩ hD hK => ?_)
  · have hR1 : ReAll (x_si (x_si M e 14 0) e 15 2) m S R' K' := hR0.up rfl rfl (fun q hq => by funext j; rw [xi_na (by omega), xi_na (by omega)])
    obtain ⟨rS, rB, rT, rH, rR, rQ, rA⟩ := hR1
    refine ⟨_, rfl, ur_question d rS hW hM' rB rT rR (fun _ => ⟨rfl, hem, clT S 2, R, K, R', K', ?_, hM, hM', hE, ?_, ?_⟩) (fun z => absurd z (by omega))⟩
    · obtain ⟨W1, W2, W3, W4⟩ := hW
      exact ⟨W1, Nat.zero_le _, fun i hi => absurd hi (Nat.not_lt_zero i), W4⟩
    · have hCm : CoAll (x_si (x_si M e 14 0) e 15 2) e (clT S 2) R K := by
        have o : ∀ q, q ≠ e → x_i (x_si (x_si M e 14 0) e 15 2) q = x_i M q := fun q hq => by funext j; rw [xi_na hq, xi_na hq]
        obtain ⟨b1, b2, b3, b4, b5⟩ := cB
        refine ⟨cS.eq rfl rfl, ⟨?_, ?_, ?_, ?_, xi_eq⟩, fun i hi => absurd hi (Nat.not_lt_zero i), ⟨fun s hs => ?_, fun i hi => ?_⟩, fun i hi => ?_, fun k hk => ?_, ?_⟩
        · rw [xi_nk (by omega), xi_nk (by omega)]; exact b1
        · rw [xi_nk (by omega), xi_nk (by omega)]; exact b2
        · rw [xi_nk (by omega), xi_nk (by omega)]; exact b3
        · rw [xi_nk (by omega), xi_eq]; rfl
        · rw [o _ (by omega), o _ (by omega), o _ (by omega)]; exact cH.1 s hs
        · rw [o _ (by omega)]; exact cH.2 i hi
        · have := cR i hi
          unfold RowI LeI at this ⊢
          rw [o _ (by omega), o _ (by omega), o _ (by omega), o _ (by omega)]; exact this
        · have := cQ k hk
          unfold CoK LeI at this ⊢
          rw [o _ (by omega), o _ (by omega), o _ (by omega), o _ (by omega)]; exact this
        · have := cA
          unfold CoA at this ⊢
          rw [o _ (by omega), o _ (by omega)]; exact this
      exact hCm.fM (F := [18, 22]) (A := []) (by
        obtain ⟨W1, W2, W3, W4⟩ := hW
        exact ⟨W1, Nat.zero_le _, fun i hi => absurd hi (Nat.not_lt_zero i), W4⟩) hem ((FrM.rf.sm (by decide)).sm (by decide))
    · obtain ⟨b0, b1, b7, b18, b22, b24⟩ := rB
      have gM : FrM (x_si (x_si M e 14 0) e 15 2) (x_si (x_si (x_si (x_si M e 14 0) e 15 2) m 18 0) m 22 2) m [18, 22] [] := (FrM.rf.sm (by decide)).sm (by decide)
      have o : ∀ x, x ≠ 0 → x_i (x_si (x_si (x_si (x_si M e 14 0) e 15 2) m 18 0) m 22 2) (m + x) = x_i (x_si (x_si M e 14 0) e 15 2) (m + x) := fun x hx => gM.i hx (by simp)
      refine ⟨gM.S rS, ⟨by rw [gM.fm (by decide)]; exact b0, by rw [gM.fm (by decide)]; exact b1, by rw [gM.fm (by decide)]; exact b7, by rw [xi_nk (by omega), xi_eq]; rfl, xi_eq, by rw [gM.fm (by decide)]; exact b24⟩, fun i hi => absurd hi (Nat.not_lt_zero i), fun s hs => ?_, fun i hi => ?_, fun k hk => ?_, fun j hj => ?_⟩
      · rw [o 16 (by omega), o 17 (by omega), o 18 (by omega)]; exact rH s hs
      · have := rR i hi
        unfold ReR at this ⊢
        rw [o 1 (by omega), o 2 (by omega), o 3 (by omega), o 4 (by omega), o 5 (by omega)]; exact this
      · have := rQ k hk
        unfold ReK ReQ at this ⊢
        rw [o 6 (by omega), o 7 (by omega), o 8 (by omega), o 9 (by omega), o 10 (by omega), o 11 (by omega), o 12 (by omega), o 13 (by omega), o 14 (by omega)]; exact this
      · rw [o 19 (by omega)]; exact rA j hj
  · have hR1 : ReAll M1 m S R' K' := by
      refine hR0.up g.h ?_ (fun q hq => g.i (by unfold QPF; omega))
      rw [g.r]
      funext j
      unfold rdM
      rw [xr_o (by omega), xr_o (by omega)]
    have hC1 := hC0.addQ hW hq g f11 f12 f13 f14 f15 hK
    obtain ⟨rS, rB, rT, rH, rR, rQ, rA⟩ := hR1
    refine ⟨_, rfl, ur_question d rS hW hM' rB rT rR (fun z => absurd z (by omega)) (fun _ M2 k' Ms' g2 kq ⟨h7, h18, h22⟩ hD' hK' => ?_)⟩
    have hqq : quR S R' = quR S R := (quR_eq hE.1).symm
    rw [hqq] at hD' hK'
    obtain ⟨s1, s2⟩ := addQ_W hW hM hq hD
    have hD'' : ∀ a s, quR S R' = .inr (a, s) → (ftR (quR S R')).1 = 0 → DecO (y_b S) R' (q_D s) (q_c s) k' Ms' := by rw [hqq]; exact hD'
    have hs3 := addQ_W hW hM' hq hD''
    rw [hqq] at hs3
    have same : quD (quR S R) k' = quD (quR S R) k ∧ ((ftR (quR S R)).1 = 0 → qd_s (quD (quR S R) k) = none → meq (fn (y_b S) (qd_n (quD (quR S R) k))) (lastM (quR S R) Ms) (lastM (quR S R) Ms')) := by
      by_cases z : (ftR (quR S R)).1 = 0
      · obtain ⟨a, s, hr, k1, k2, k3, k4⟩ := rd_ok (R := R) (wd := fun i => m_n (R i)) (rc := y_rc S) (t := y_t S) (fun i => rfl) hW.2.1 z
        have hr' : quR S R = .inr (a, s) := hr
        obtain ⟨d1, d2⟩ := dec_same hW.1 (fun j hj => (k3 j hj).2) (fun q hq => ⟨hM.1 q hq, hE.2.1 q hq⟩) (hD a s hr' z) (hD' a s hr' z)
        subst d1
        refine ⟨rfl, fun _ hs => ?_⟩
        have ez := z
        rw [hr'] at ez
        have eD : quD (quR S R) k = ((ftR (quR S R)).1, (ftR (quR S R)).2, (if (ftR (quR S R)).1 = 0 then k.map (fun j => p_p (q_D s j)) else none), p_s (q_D s (q_c s - 1)), q_c s, rowsOf (q_D s) (q_c s)) := by rw [hr']; rfl
        have hk : k = none := by
          rw [eD] at hs
          have hs' : (if (ftR (quR S R)).1 = 0 then k.map (fun j => p_p (q_D s j)) else none) = none := hs
          rw [if_pos z] at hs'
          cases k with
          | none => rfl
          | some k => cases hs'
        have := (d2 hk (q_c s - 1) (by omega)).2
        rw [eD, hr']
        exact this
      · exact ⟨quD_no z, fun z2 => absurd z2 z⟩
    obtain ⟨e1, e2⟩ := same
    rw [e1] at hK' hs3
    have hR2 := ReAll.addQ (R := R') (K := K') ⟨rS, rB, rT, rH, rR, rQ, rA⟩ hW hM' hq g2 kq h7 h18 h22 hK'
    refine ⟨rfl, hem, addQ S (quD (quR S R) k), R, adK_ S K (lastM (quR S R) Ms), R', adK_ S K' (lastM (quR S R) Ms'), s1, s2, hs3.2, ⟨hE.1, hE.2.1, fun j hj hf hs => ?_⟩, hC1.fM s1 hem g2, hR2⟩
    have hj' : j < y_qc S + 1 := hj
    by_cases c : j = y_qc S
    · subst c
      have eq1 : y_q (addQ S (quD (quR S R) k)) (y_qc S) = quD (quR S R) k := if_pos rfl
      have eK : ∀ (K : Nat → Mc) x, adK_ S K x (y_qc S) = x := fun K x => if_pos rfl
      rw [eq1] at hf hs ⊢
      rw [eK, eK]
      exact e2 ((quD_f (res := quR S R) (k := k)).1.symm.trans hf) hs
    · have eq0 : y_q (addQ S (quD (quR S R) k)) j = y_q S j := if_neg c
      have eK : ∀ (K : Nat → Mc) x, adK_ S K x j = K j := fun K x => if_neg c
      rw [eq0] at hf hs ⊢
      rw [eK, eK]
      exact hE.2.2 j (by omega) hf hs
end OpQuest
