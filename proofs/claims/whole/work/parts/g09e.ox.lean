section OpsLaw
variable {G : GG} {M M' : Mem} {e m b : Nat} {S S' : Sg} {R K R' K' : Nat → Mc} {Q : Option Value → Mem → Prop}
theorem ox_machine (d : Nat) {a l s n : Int32} : COi G (d + 6) e m mX11_machine mX12_machine [.int a, .int l, .int s, .int n] := by
  intro M hC0
  obtain ⟨hem, S, R, K, hW, hM, hCo, hRe⟩ := hC0.one
  obtain ⟨cS, cB, cT, cH, cR, cQ, cA⟩ := id hCo
  refine w_machine d cS hW cB cH (fun c hc => ⟨_, rfl, (by first | exact hC0.h28 | (show (x_h M1 m).1 = 28; rw [hA.1]; exact hC0.h28) | (show (x_h M1 m).1 = 28; rw [fr.h]; exact hC0.h28) | (show (x_h M1 m).1 = 28; rw [g.h]; exact hC0.h28) | exact hC1.h28 | (rw [g.h]; exact hC0.h28) | (rw [fr.h]; exact hC0.h28) | (rw [hA.1]; exact hC0.h28) | exact rS.1), ?_⟩) (fun hg M1 mc hA h60 hcan => ⟨_, rfl, (by first | exact hC0.h28 | (show (x_h M1 m).1 = 28; rw [hA.1]; exact hC0.h28) | (show (x_h M1 m).1 = 28; rw [fr.h]; exact hC0.h28) | (show (x_h M1 m).1 = 28; rw [g.h]; exact hC0.h28) | exact hC1.h28 | (rw [g.h]; exact hC0.h28) | (rw [fr.h]; exact hC0.h28) | (rw [hA.1]; exact hC0.h28) | exact rS.1), ?_⟩)
  · obtain ⟨rS, rB, rT, rH, rR, rQ, rA⟩ := hRe.lo (q := e) (k := 15) (v := c) (by omega)
    exact ur_machine (d + 1) rS hW rB rH (fun c' hc' => ⟨rfl, by rw [hc'.one hc]; exact hC0.st2⟩) (fun hg => (hc.no hg).elim)
  · obtain ⟨rS, rB, rT, rH, rR, rQ, rA⟩ := hRe.up hA.1 (by rw [hA.2.1]) (fun q hq => hA.2.2.1 q (by omega) (by have := hg.2.1; omega) (by have := hg.2.1; omega))
    refine ur_machine (d + 1) rS hW rB rH (fun c hc => (hc.no hg).elim) (fun hg2 M2 mc' hA2 h60' hcan' => ⟨rfl, ?_⟩)
    obtain ⟨q1, q2, -, -, q5, -⟩ := hg
    have hn : 0 < iN n := by have := q1.2.2.2; unfold iN; omega
    exact CRel.addR hem hW hM hCo hRe q2 (by omega) hA hA2 (maB_G hW.1 hn q5.1 q5.2 h60 hcan) (maB_G hW.1 hn q5.1 q5.2 h60' hcan') (mcan_one (by have := hW.1; omega) hcan hcan')
theorem ox_grown (d : Nat) {a s n : Int32} : COi G (d + 6) e m mX11_grown mX12_grown [.int a, .int s, .int n] := by
  intro M hC0
  obtain ⟨hem, S, R, K, hW, hM, hCo, hRe⟩ := hC0.one
  obtain ⟨cS, cB, cT, cH, cR, cQ, cA⟩ := id hCo
  refine w_grown d cS hW cB cH (fun c hc => ⟨_, rfl, (by first | exact hC0.h28 | (show (x_h M1 m).1 = 28; rw [hA.1]; exact hC0.h28) | (show (x_h M1 m).1 = 28; rw [fr.h]; exact hC0.h28) | (show (x_h M1 m).1 = 28; rw [g.h]; exact hC0.h28) | exact hC1.h28 | (rw [g.h]; exact hC0.h28) | (rw [fr.h]; exact hC0.h28) | (rw [hA.1]; exact hC0.h28) | exact rS.1), ?_⟩) (fun hg M1 mc hA h60 hcan => ⟨_, rfl, (by first | exact hC0.h28 | (show (x_h M1 m).1 = 28; rw [hA.1]; exact hC0.h28) | (show (x_h M1 m).1 = 28; rw [fr.h]; exact hC0.h28) | (show (x_h M1 m).1 = 28; rw [g.h]; exact hC0.h28) | exact hC1.h28 | (rw [g.h]; exact hC0.h28) | (rw [fr.h]; exact hC0.h28) | (rw [hA.1]; exact hC0.h28) | exact rS.1), ?_⟩)
  · obtain ⟨rS, rB, rT, rH, rR, rQ, rA⟩ := hRe.lo (q := e) (k := 15) (v := c) (by omega)
    exact ur_grown (d + 1) rS hW rB rH (fun c' hc' => ⟨rfl, by rw [hc'.one hc]; exact hC0.st2⟩) (fun hg => (hc.no hg).elim)
  · obtain ⟨rS, rB, rT, rH, rR, rQ, rA⟩ := hRe.up hA.1 (by rw [hA.2.1]) (fun q hq => hA.2.2.1 q (by omega) (by have := hg.2.1; omega) (by have := hg.2.1; omega))
    refine ur_grown (d + 1) rS hW rB rH (fun c hc => (hc.no hg).elim) (fun hg2 M2 mc' hA2 h60' hcan' => ⟨rfl, ?_⟩)
    obtain ⟨q1, q2, -, -, -, q5, -⟩ := hg
    have hn : 0 < iN n := by have := q1.2.2; unfold iN; omega
    have hn8 : iN n ≤ 8 := by have := q1.2.2; unfold iN; omega
    exact CRel.addR hem hW hM hCo hRe q2 (by omega) hA hA2 (grB_G hW.1 hn hn8 q5.1 q5.2 h60 hcan) (grB_G hW.1 hn hn8 q5.1 q5.2 h60' hcan') (mcan_one (by have := hW.1; omega) hcan hcan')
theorem ox_ring (d : Nat) {a s i l : Int32} : COi G (d + 6) e m mX11_ring mX12_ring [.int a, .int s, .int i, .int l] := by
  intro M hC0
  obtain ⟨hem, S, R, K, hW, hM, hCo, hRe⟩ := hC0.one
  obtain ⟨cS, cB, cT, cH, cR, cQ, cA⟩ := id hCo
  refine w_ring d cS hW cB cH (fun c hc => ⟨_, rfl, (by first | exact hC0.h28 | (show (x_h M1 m).1 = 28; rw [hA.1]; exact hC0.h28) | (show (x_h M1 m).1 = 28; rw [fr.h]; exact hC0.h28) | (show (x_h M1 m).1 = 28; rw [g.h]; exact hC0.h28) | exact hC1.h28 | (rw [g.h]; exact hC0.h28) | (rw [fr.h]; exact hC0.h28) | (rw [hA.1]; exact hC0.h28) | exact rS.1), ?_⟩) (fun hg M1 mc hA h60 hcan => ⟨_, rfl, (by first | exact hC0.h28 | (show (x_h M1 m).1 = 28; rw [hA.1]; exact hC0.h28) | (show (x_h M1 m).1 = 28; rw [fr.h]; exact hC0.h28) | (show (x_h M1 m).1 = 28; rw [g.h]; exact hC0.h28) | exact hC1.h28 | (rw [g.h]; exact hC0.h28) | (rw [fr.h]; exact hC0.h28) | (rw [hA.1]; exact hC0.h28) | exact rS.1), ?_⟩)
  · obtain ⟨rS, rB, rT, rH, rR, rQ, rA⟩ := hRe.lo (q := e) (k := 15) (v := c) (by omega)
    exact ur_ring (d + 1) rS hW rB rH (fun c' hc' => ⟨rfl, by rw [hc'.one hc]; exact hC0.st2⟩) (fun hg => (hc.no hg).elim)
  · obtain ⟨rS, rB, rT, rH, rR, rQ, rA⟩ := hRe.up hA.1 (by rw [hA.2.1]) (fun q hq => hA.2.2.1 q (by omega) (by have := hg.2.1; omega) (by have := hg.2.1; omega))
    refine ur_ring (d + 1) rS hW rB rH (fun c hc => (hc.no hg).elim) (fun hg2 M2 mc' hA2 h60' hcan' => ⟨rfl, ?_⟩)
    obtain ⟨q1, q2, -, -, -, q5, -⟩ := hg
    have hl : 0 < iN l := by have := q1.2.2.2; unfold iN; omega
    exact CRel.addR hem hW hM hCo hRe q2 (by omega) hA hA2 (riB_G hW.1 hl q5 h60 hcan) (riB_G hW.1 hl q5 h60' hcan') (mcan_one (by have := hW.1; omega) hcan hcan')
theorem ox_pair (d : Nat) {i j w : Int32} : COi G (d + 7) e m mX11_pair mX12_pair [.int i, .int j, .int w] := by
  intro M hC0
  obtain ⟨hem, S, R, K, hW, hM, hCo, hRe⟩ := hC0.one
  obtain ⟨cS, cB, cT, cH, cR, cQ, cA⟩ := id hCo
  refine w_pair d cS hW hM cB cR (fun c hc M1 hA => ⟨_, rfl, (by first | exact hC0.h28 | (show (x_h M1 m).1 = 28; rw [hA.1]; exact hC0.h28) | (show (x_h M1 m).1 = 28; rw [fr.h]; exact hC0.h28) | (show (x_h M1 m).1 = 28; rw [g.h]; exact hC0.h28) | exact hC1.h28 | (rw [g.h]; exact hC0.h28) | (rw [fr.h]; exact hC0.h28) | (rw [hA.1]; exact hC0.h28) | exact rS.1), ?_⟩) (fun hg M1 mc hA h60 hcan => ⟨_, rfl, (by first | exact hC0.h28 | (show (x_h M1 m).1 = 28; rw [hA.1]; exact hC0.h28) | (show (x_h M1 m).1 = 28; rw [fr.h]; exact hC0.h28) | (show (x_h M1 m).1 = 28; rw [g.h]; exact hC0.h28) | exact hC1.h28 | (rw [g.h]; exact hC0.h28) | (rw [fr.h]; exact hC0.h28) | (rw [hA.1]; exact hC0.h28) | exact rS.1), ?_⟩)
  · have hr10 := hW.2.2.2.2.1
    have hC1 : CRel M1 e m := CRel.mk1 hem hW hM (hCo.scr hW hA) (hRe.up hA.1 (by rw [hA.2.1]) (fun q hq => hA.2.2 q (by omega) (by omega)))
    obtain ⟨rS, rB, rT, rH, rR, rQ, rA⟩ := (hRe.up hA.1 (by rw [hA.2.1]) (fun q hq => hA.2.2 q (by omega) (by omega)) : ReAll M1 m S R K).lo (q := e) (k := 15) (v := c) (by omega)
    refine ur_pair (d + 2) rS hW hM rB rR (fun c' hc' M2 f2 => ⟨rfl, ?_⟩) (fun hg => (hc.no hg).elim)
    rw [hc'.one hc]
    have hC2 : CRel (x_si M1 e 15 c) e m ∨ True := Or.inr trivial
    have hC3 := CRel.st2 (v := c) hC1
    have g3 := f2.wk (F := [25, 26, 29]) (A := [20, 21, 22, 23, 24, 25, 26, 27, 28, 29]) (by decide) (by decide)
    have cc := (hCo.scr hW hA).st (v := c) hW
    have rr := (ReAll.lo (q := e) (k := 15) (v := c) (hRe.up hA.1 (by rw [hA.2.1]) (fun q hq => hA.2.2 q (by omega) (by omega)) : ReAll M1 m S R K) (by omega))
    have cc2 : CoAll M2 e (nwS S c) R K := cc.fM hW hem f2
    have rr2 : ReAll M2 m S R K := rr.fM f2 (by decide) (by decide)
    exact CRel.mk1 (S := nwS S c) hem hW hM (cc2.hi hW (by omega)) (rr2.st (v := c))
  · obtain ⟨rS, rB, rT, rH, rR, rQ, rA⟩ := hRe.up hA.1 (by rw [hA.2.1]) (fun q hq => hA.2.2.1 q (by omega) (by have := hg.2.1; omega) (by have := hg.2.1; omega))
    refine ur_pair (d + 2) rS hW hM rB rR (fun c hc _ _ => (hc.no hg).elim) (fun hg2 M2 mc' hA2 h60' hcan' => ⟨rfl, ?_⟩)
    obtain ⟨q1, q2, -, -⟩ := hg
    have hr10 := hW.2.2.2.2.1
    have hi := hM.1 _ (q1.1.eq (by omega)).2
    have hj := hM.1 _ (q1.2.1.eq (by omega)).2
    have hw := (q1.2.2.eq (by omega)).2
    exact CRel.addR hem hW hM hCo hRe q2 (by omega) hA hA2 (paB_G hW.1 hw hi hj h60 hcan) (paB_G hW.1 hw hi hj h60' hcan') (mcan_one (by have := hW.1; omega) hcan hcan')
theorem ox_sought (d : Nat) {x : Int32} : COi G (d + 5) e m mX11_sought mX12_sought [.int x] := by
  intro M hC0
  obtain ⟨hem, S, R, K, hW, hM, hCo, hRe⟩ := hC0.one
  obtain ⟨cS, cB, cT, cH, cR, cQ, cA⟩ := id hCo
  refine w_sought (d + 1) cS hW hM cB cQ (fun c hc => ⟨_, rfl, (by first | exact hC0.h28 | (show (x_h M1 m).1 = 28; rw [hA.1]; exact hC0.h28) | (show (x_h M1 m).1 = 28; rw [fr.h]; exact hC0.h28) | (show (x_h M1 m).1 = 28; rw [g.h]; exact hC0.h28) | exact hC1.h28 | (rw [g.h]; exact hC0.h28) | (rw [fr.h]; exact hC0.h28) | (rw [hA.1]; exact hC0.h28) | exact rS.1), ?_⟩) (fun hg ex hx M1 hA => ⟨_, rfl, (by first | exact hC0.h28 | (show (x_h M1 m).1 = 28; rw [hA.1]; exact hC0.h28) | (show (x_h M1 m).1 = 28; rw [fr.h]; exact hC0.h28) | (show (x_h M1 m).1 = 28; rw [g.h]; exact hC0.h28) | exact hC1.h28 | (rw [g.h]; exact hC0.h28) | (rw [fr.h]; exact hC0.h28) | (rw [hA.1]; exact hC0.h28) | exact rS.1), ?_⟩)
  · obtain ⟨rS, rB, rT, rH, rR, rQ, rA⟩ := hRe.lo (q := e) (k := 15) (v := c) (by omega)
    exact ur_sought d rS hW hM rB rQ (fun c' hc' => ⟨rfl, by rw [hc'.one hc]; exact hC0.st2⟩) (fun hg => (hc.no hg).elim)
  · obtain ⟨rS, rB, rT, rH, rR, rQ, rA⟩ := hRe.up hA.1 (by rw [hA.2.1]) (fun q hq => hA.2.2.1 q (by omega) (by have := hg.2.1; omega) (by have := hg.2.1; omega))
    refine ur_sought d rS hW hM rB rQ (fun c hc => (hc.no hg).elim) (fun hg2 ex2 hx2 M2 mc' hA2 h60' hcan' => ⟨rfl, ?_⟩)
    obtain ⟨q1, q2, q3, -⟩ := hg
    obtain ⟨⟨β, hcan⟩, k2, k3, k4⟩ := hM.2 _ hx q3.1 q3.2.1
    have ef : fn (y_b S) (qd_n (y_q S (iN x))) = y_b S := by unfold fn; rw [q3.2.2, Nat.pow_one]
    rw [ef] at hcan
    have hb0 : 0 < y_b S := by have := hW.1; omega
    have heq : meq (y_b S) (K (iN x)) mc' := mcan_one hb0 hcan (hcan' β hcan)
    refine CRel.addR hem hW hM hCo hRe q2 (by omega) hA hA2 ⟨⟨β, hcan⟩, by omega, fun i hi => by have := k3 i hi; omega, k4⟩ ⟨⟨β, hcan' β hcan⟩, h60', fun i hi => ?_, ?_⟩ heq
    · rw [← (heq.2 i (by rw [heq.1]; exact hi)).1]
      have := k3 i (by rw [heq.1]; exact hi)
      omega
    · rw [← (heq.2 0 hcan.1).2 0 hb0]
      exact k4
theorem ox_next (d : Nat) {x : Int32} {l : Int64} : COl G (d + 5) e m mX11_next mX12_next_ [.int x, .long l] := by
  intro M hC0
  obtain ⟨hem, S, R, K, hW, hM, hCo, hRe⟩ := hC0.one
  obtain ⟨cS, cB, cT, cH, cR, cQ, cA⟩ := id hCo
  obtain ⟨rS, rB, rT, rH, rR, rQ, rA⟩ := id hRe
  have hqc := hW.2.2.2.2.2.2.1
  have t1 : ∀ k, k < y_qc S → (x_i M (e + 540 + 8 * k) 1 = 0 ↔ x_i M (m + 6) k = 0) := fun k hk => (ask_c hW cQ hk).1.trans (ask_r hW rQ hk).1.symm
  have t2 : ∀ k, k < y_qc S → (x_i M (e + 540 + 8 * k) 3 = -1 ↔ x_i M (m + 8) k = -1) := fun k hk => (ask_c hW cQ hk).2.trans (ask_r hW rQ hk).2.symm
  refine w_next d cS hW hM cB cQ (fun h => ⟨_, rfl, (by first | exact hC0.h28 | (show (x_h M1 m).1 = 28; rw [hA.1]; exact hC0.h28) | (show (x_h M1 m).1 = 28; rw [fr.h]; exact hC0.h28) | (show (x_h M1 m).1 = 28; rw [g.h]; exact hC0.h28) | exact hC1.h28 | (rw [g.h]; exact hC0.h28) | (rw [fr.h]; exact hC0.h28) | (rw [hA.1]; exact hC0.h28) | exact rS.1), ?_⟩) (fun h => ⟨_, rfl, (by first | exact hC0.h28 | (show (x_h M1 m).1 = 28; rw [hA.1]; exact hC0.h28) | (show (x_h M1 m).1 = 28; rw [fr.h]; exact hC0.h28) | (show (x_h M1 m).1 = 28; rw [g.h]; exact hC0.h28) | exact hC1.h28 | (rw [g.h]; exact hC0.h28) | (rw [fr.h]; exact hC0.h28) | (rw [hA.1]; exact hC0.h28) | exact rS.1), ?_⟩) (fun k hk ek g1 g2 gp a ha M1 res g hr => ?_)
  · exact ur_next_ (d + 1) rS hW hM rB rQ (fun _ => ⟨rfl, hC0⟩) (fun _ => ⟨rfl, hC0⟩) (fun k hk ek g1 g2 gp a _ M1 res _ _ => absurd ⟨(t1 k hk).mpr g1, (t2 k hk).mpr g2, gp⟩ (h k hk ek))
  · exact ur_next_ (d + 1) rS hW hM rB rQ (fun _ => ⟨rfl, hC0⟩) (fun _ => ⟨rfl, hC0⟩) (fun k hk ek g1 g2 gp a ha M1 res _ _ => absurd ha (h a))
  have hC1 : CRel M1 e m := hC0.fP (g.P (P := fun q => e + 14 ≤ q ∧ q ≤ e + 533) (fun q hq => by simp at hq; omega)) (fun q hq => hq)
  have o : ∀ q, m ≤ q → x_i M1 q = x_i M q := fun q hq => g.i (by simp; omega)
  have hR1 : ReAll M1 m S R K := hRe.up g.h (by rw [g.r]) o
  obtain ⟨rS, rB, rT, rH, rR, rQ, rA⟩ := hR1
  have u1 : ∀ k, x_i M1 (m + 6) k = x_i M (m + 6) k := fun k => by rw [o _ (by omega)]
  have u2 : ∀ k, x_i M1 (m + 8) k = x_i M (m + 8) k := fun k => by rw [o _ (by omega)]
  refine ⟨_, rfl, (by first | exact hC0.h28 | (show (x_h M1 m).1 = 28; rw [hA.1]; exact hC0.h28) | (show (x_h M1 m).1 = 28; rw [fr.h]; exact hC0.h28) | (show (x_h M1 m).1 = 28; rw [g.h]; exact hC0.h28) | exact hC1.h28 | (rw [g.h]; exact hC0.h28) | (rw [fr.h]; exact hC0.h28) | (rw [hA.1]; exact hC0.h28) | exact rS.1), ur_next_ (d + 1) rS hW hM rB rQ (fun h => ?_) (fun h => absurd ha (h a)) (fun k' hk' ek' g1' g2' gp' a' ha' M2 res' f hr' => ?_)⟩
  · exact absurd ⟨by rw [u1]; exact (t1 k hk).mp g1, by rw [u2]; exact (t2 k hk).mp g2, gp⟩ (h k hk ek)
  · have := nI_same ek ek' (by omega) (by omega)
    subst this
    have := ha.one ha'
    subst this
    rw [hr'.one hr]
    exact ⟨rfl, hC1.fM f (by simp) (by simp)⟩
theorem ox_many (d : Nat) {x : Int32} : COl G (d + 7) e m mX11_many mX12_many [.int x] := by
  intro M hC0
  obtain ⟨hem, S, R, K, hW, hM, hCo, hRe⟩ := hC0.one
  obtain ⟨cS, cB, cT, cH, cR, cQ, cA⟩ := id hCo
  obtain ⟨rS, rB, rT, rH, rR, rQ, rA⟩ := id hRe
  have hqc := hW.2.2.2.2.2.2.1
  have hb := hW.1
  have t1 : ∀ k, k < y_qc S → (x_i M (e + 540 + 8 * k) 1 = 0 ↔ x_i M (m + 6) k = 0) := fun k hk => (ask_c hW cQ hk).1.trans (ask_r hW rQ hk).1.symm
  have t2 : ∀ k, k < y_qc S → (x_i M (e + 540 + 8 * k) 3 = -1 ↔ x_i M (m + 8) k = -1) := fun k hk => (ask_c hW cQ hk).2.trans (ask_r hW rQ hk).2.symm
  refine w_many (d + 2) cS hW hM cB cQ (fun h => ⟨_, rfl, (by first | exact hC0.h28 | (show (x_h M1 m).1 = 28; rw [hA.1]; exact hC0.h28) | (show (x_h M1 m).1 = 28; rw [fr.h]; exact hC0.h28) | (show (x_h M1 m).1 = 28; rw [g.h]; exact hC0.h28) | exact hC1.h28 | (rw [g.h]; exact hC0.h28) | (rw [fr.h]; exact hC0.h28) | (rw [hA.1]; exact hC0.h28) | exact rS.1), ?_⟩) (fun k hk ek g1 g2 gp M1 res g hr => ?_)
  · exact ur_many d rS hW hM rB rQ (fun _ => ⟨rfl, hC0⟩) (fun k hk ek g1 g2 gp M1 res _ _ => absurd ⟨(t1 k hk).mpr g1, (t2 k hk).mpr g2, gp⟩ (h k hk ek))
  have hC1 : CRel M1 e m := hC0.fP (g.P (P := fun q => e + 14 ≤ q ∧ q ≤ e + 533) (fun q hq => by simp at hq; omega)) (fun q hq => hq)
  have o : ∀ q, m ≤ q → x_i M1 q = x_i M q := fun q hq => g.i (by simp; omega)
  have hR1 : ReAll M1 m S R K := hRe.up g.h (by rw [g.r]) o
  obtain ⟨rS, rB, rT, rH, rR, rQ, rA⟩ := hR1
  have u1 : ∀ k, x_i M1 (m + 6) k = x_i M (m + 6) k := fun k => by rw [o _ (by omega)]
  have u2 : ∀ k, x_i M1 (m + 8) k = x_i M (m + 8) k := fun k => by rw [o _ (by omega)]
  refine ⟨_, rfl, (by first | exact hC0.h28 | (show (x_h M1 m).1 = 28; rw [hA.1]; exact hC0.h28) | (show (x_h M1 m).1 = 28; rw [fr.h]; exact hC0.h28) | (show (x_h M1 m).1 = 28; rw [g.h]; exact hC0.h28) | exact hC1.h28 | (rw [g.h]; exact hC0.h28) | (rw [fr.h]; exact hC0.h28) | (rw [hA.1]; exact hC0.h28) | exact rS.1), ur_many d rS hW hM rB rQ (fun h => ?_) (fun k' hk' ek' g1' g2' gp' M2 res' f hr' => ?_)⟩
  · exact absurd ⟨by rw [u1]; exact (t1 k hk).mp g1, by rw [u2]; exact (t2 k hk).mp g2, gp⟩ (h k hk ek)
  · have := nI_same ek ek' (by omega) (by omega)
    subst this
    obtain ⟨-, ⟨-, -, -, o00⟩, -⟩ := ok_c hW hM cQ hk g1 g2
    rw [hr'.one (by omega) o00 hr]
    exact ⟨rfl, hC1.fM f (by simp) (by simp)⟩
theorem ox_values (d : Nat) {x : Int32} {l : Int64} : COl G (d + 7) e m mX11_values mX12_values [.int x, .long l] := by
  intro M hC0
  obtain ⟨hem, S, R, K, hW, hM, hCo, hRe⟩ := hC0.one
  obtain ⟨cS, cB, cT, cH, cR, cQ, cA⟩ := id hCo
  obtain ⟨rS, rB, rT, rH, rR, rQ, rA⟩ := id hRe
  have hqc := hW.2.2.2.2.2.2.1
  have hb := hW.1
  have t1 : ∀ k, k < y_qc S → (x_i M (e + 540 + 8 * k) 1 = 0 ↔ x_i M (m + 6) k = 0) := fun k hk => (ask_c hW cQ hk).1.trans (ask_r hW rQ hk).1.symm
  have t2 : ∀ k, k < y_qc S → (x_i M (e + 540 + 8 * k) 3 = -1 ↔ x_i M (m + 8) k = -1) := fun k hk => (ask_c hW cQ hk).2.trans (ask_r hW rQ hk).2.symm
  refine w_values (d + 2) cS hW hM cB cQ (fun h => ⟨_, rfl, (by first | exact hC0.h28 | (show (x_h M1 m).1 = 28; rw [hA.1]; exact hC0.h28) | (show (x_h M1 m).1 = 28; rw [fr.h]; exact hC0.h28) | (show (x_h M1 m).1 = 28; rw [g.h]; exact hC0.h28) | exact hC1.h28 | (rw [g.h]; exact hC0.h28) | (rw [fr.h]; exact hC0.h28) | (rw [hA.1]; exact hC0.h28) | exact rS.1), ?_⟩) (fun h => ⟨_, rfl, (by first | exact hC0.h28 | (show (x_h M1 m).1 = 28; rw [hA.1]; exact hC0.h28) | (show (x_h M1 m).1 = 28; rw [fr.h]; exact hC0.h28) | (show (x_h M1 m).1 = 28; rw [g.h]; exact hC0.h28) | exact hC1.h28 | (rw [g.h]; exact hC0.h28) | (rw [fr.h]; exact hC0.h28) | (rw [hA.1]; exact hC0.h28) | exact rS.1), ?_⟩) (fun k hk ek g1 g2 gp s hs M1 res t ht hst g hr => ?_)
  · exact ur_values d rS hW hM rB rQ (fun _ => ⟨rfl, hC0⟩) (fun _ => ⟨rfl, hC0⟩) (fun k hk ek g1 g2 gp s _ M1 res _ _ => absurd ⟨(t1 k hk).mpr g1, (t2 k hk).mpr g2, gp⟩ (h k hk ek))
  · exact ur_values d rS hW hM rB rQ (fun _ => ⟨rfl, hC0⟩) (fun _ => ⟨rfl, hC0⟩) (fun k hk ek g1 g2 gp s hs M1 res _ _ => absurd hs (h s))
  have hC1 : CRel M1 e m := hC0.fP (g.P (P := fun q => e + 14 ≤ q ∧ q ≤ e + 533) (fun q hq => by simp at hq; omega)) (fun q hq => hq)
  have o : ∀ q, m ≤ q → x_i M1 q = x_i M q := fun q hq => g.i (by simp; omega)
  have hR1 : ReAll M1 m S R K := hRe.up g.h (by rw [g.r]) o
  obtain ⟨rS, rB, rT, rH, rR, rQ, rA⟩ := hR1
  have u1 : ∀ k, x_i M1 (m + 6) k = x_i M (m + 6) k := fun k => by rw [o _ (by omega)]
  have u2 : ∀ k, x_i M1 (m + 8) k = x_i M (m + 8) k := fun k => by rw [o _ (by omega)]
  refine ⟨_, rfl, (by first | exact hC0.h28 | (show (x_h M1 m).1 = 28; rw [hA.1]; exact hC0.h28) | (show (x_h M1 m).1 = 28; rw [fr.h]; exact hC0.h28) | (show (x_h M1 m).1 = 28; rw [g.h]; exact hC0.h28) | exact hC1.h28 | (rw [g.h]; exact hC0.h28) | (rw [fr.h]; exact hC0.h28) | (rw [hA.1]; exact hC0.h28) | exact rS.1), ur_values d rS hW hM rB rQ (fun h => ?_) (fun h => absurd hs (h s)) (fun k' hk' ek' g1' g2' gp' s' hs' M2 res' f hr' => ?_)⟩
  · exact absurd ⟨by rw [u1]; exact (t1 k hk).mp g1, by rw [u2]; exact (t2 k hk).mp g2, gp⟩ (h k hk ek)
  · have := nI_same ek ek' (by omega) (by omega)
    subst this
    have := hs.one hs'
    subst this
    obtain ⟨-, ⟨⟨β, oc⟩, -, -, o00⟩, -⟩ := ok_c hW hM cQ hk g1 g2
    have ef : fn (y_b S) (qd_n (y_q S k)) = y_b S * y_b S := by unfold fn; rw [gp, Nat.pow_two]
    have hcl : ∀ i, i < m_n (K k) → ∀ g, g < y_b S → m_s (K k) i (g * y_b S) < m_n (K k) := fun i hi g hg => oc.2.1 i hi _ (by
      rw [ef]
      have : (g + 1) * y_b S ≤ y_b S * y_b S := Nat.mul_le_mul_right _ hg
      rw [Nat.succ_mul] at this
      omega)
    rw [show (31 : Nat) = (31 - t) + t by omega, dD_zz (by omega) hst] at hr'
    rw [(hr'.shift hcl oc.1).one (by omega) o00 hr]
    exact ⟨rfl, hC1.fM f (by simp) (by simp)⟩
end OpsLaw
