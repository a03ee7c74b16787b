/-! ===== both alike: next, with its heads ===== -/
section OpNext2
variable {G : GG} {M M' : Mem} {e m b q : Nat} {mc : Mc} {S : Sg} {R K : Nat → Mc} {Q : Option Value → Mem → Prop}
theorem ur_next_ (d : Nat) (hS : ReS M m) (hW : SgW S) (hM : MaW S R K) (hB : ReB M m S) (hQs : ReQs M m S K) {x : Int32} {l : Int64}
    (hQ0 : (∀ k, k < y_qc S → x = nI k → ¬ (x_i M (m + 6) k = 0 ∧ x_i M (m + 8) k = -1 ∧ pc (qd_n (y_q S k)) = 1)) → Q (some (.long (-2))) M)
    (hQ0b : (∀ a, ¬ nxV l a) → Q (some (.long (-2))) M)
    (hQ1 : ∀ k, k < y_qc S → x = nI k → x_i M (m + 6) k = 0 → x_i M (m + 8) k = -1 → pc (qd_n (y_q S k)) = 1 → ∀ a, nxV l a → ∀ M1 res, FrM M M1 m [] [58, 60, 61] → NxR (y_b S) (m_s (K k)) (m_k (K k)) a res → Q (some (.long res)) M1) :
    Call G (d + 4) 0 0 mX12_next_ [.ref m, .int x, .long l] M Q := by
  have hb := hW.1
  have hqc := hW.2.2.2.2.2.2.1
  obtain ⟨g0, g1, g7, g18, g22, g24⟩ := id hB
  have hnf : ∀ k, k < y_qc S → x_i M (m + 6) k = 0 → x_i M (m + 8) k = -1 → x_i M (m + 9) k = nI (qd_n (y_q S k)) ∧ qd_n (y_q S k) < 256 := fun k hk h1 h2 => by
    obtain ⟨-, -, o4, o256, -⟩ := ok_r hW hM hQs hk h1 h2
    exact ⟨o4, o256⟩
  refine eX12_next_ m _ _ ⟨hS.1, ?_⟩
  show Call G (d + 3) 0 0 mX12_isOfOne [.ref m, .int x, .int (nI 1)] M _
  refine ur_isOfOne d hS g7 hqc (by omega) hnf (fun h => ⟨0, rfl, fun _ => hQ0 h, fun c => absurd rfl c⟩) (fun k hk ek h1 h2 gp => ⟨1, rfl, fun c => absurd c (by decide), fun _ => ?_⟩)
  have hq1 := hQ1 k hk ek h1 h2 gp
  obtain ⟨oI, ⟨⟨β, oc⟩, o40, ok1, o00⟩, o4, o256, o3, o27⟩ := ok_r hW hM hQs hk h1 h2
  have ef : fn (y_b S) (qd_n (y_q S k)) = y_b S := by unfold fn; rw [gp, Nat.pow_one]
  rw [ef] at oI oc
  have hg : ReG (y_b S) k (K k) := ⟨hb, by omega, oc.1, o40, oc.2.1, ok1, o00⟩
  subst ek
  refine eX12_isOutside _ _ _ ?_
  rw [lg_cmp_lt, lg_cmp_le]
  have out : (∀ a, ¬ nxV l a) → ∃ v8 : Int32, (some (.int 1) : Option Value) = some (.int v8) ∧ (v8 = 0 → (¬ lg_cmp l (-1) = 0 → LX12_next__48 G (d + 3) 0 0 m (nI k) l M Q) ∧ (lg_cmp l (-1) = 0 → (x_h M m).1 = 28 ∧ ∃ b12, x_r M m 16 = some b12 ∧ (x_h M b12).1 = 3 ∧ vp_in (40 * nI k) (x_h M b12).2 ∧ (x_i M b12 ((40 : Int32) * nI k).toNatClampNeg = 0 → LX12_next__48 G (d + 3) 0 0 m (nI k) l M Q) ∧ (¬ x_i M b12 ((40 : Int32) * nI k).toNatClampNeg = 0 → Q (some (.long 0)) M))) ∧ (¬ v8 = 0 → Q (some (.long (-2))) M) := fun h => ⟨1, rfl, fun c => absurd c (by decide), fun _ => hQ0b h⟩
  refine ⟨fun c => out (fun a ha => ha.rng.1 c), fun c1 => ⟨fun c2 => ?_, fun c2 => out (fun a ha => c2 ha.rng.2)⟩⟩
  obtain ⟨a, hv⟩ := nxV.ex c1 c2
  have e40 : ((40 : Int32) * nI k) = nI (40 * k) := by rw [show (40 : Int32) = nI 40 from rfl, s_mul]
  refine ⟨0, rfl, fun _ => ⟨fun c => ?_, fun c => ⟨hS.1, m + 14, hS.r14, by rw [hS.h14], by rw [hS.h14, e40]; exact vp_in_nI (show 40 * k < 400 by omega) (by omega), ?_⟩⟩, fun c => absurd rfl c⟩
  · rw [lg_cmp_eq] at c
    rcases hv with ⟨h3, h4⟩ | ⟨A, h3, h4, h5⟩
    · exact absurd h3 c
    · subst h5
      exact ur_next48 (d + 1) hS g0 hg oI h3 (Or.inr h4) (fun M1 res g hr => hq1 _ (Or.inr ⟨A, h3, h4, rfl⟩) M1 res g hr)
  · rw [lg_cmp_eq] at c
    have ha0 : a = 0 := by
      rcases hv with ⟨h3, h4⟩ | ⟨A, h3, h4, h5⟩
      · exact h4
      · exact absurd (h4.symm.trans c) (nxm1 h3)
    subst ha0
    have hk0 := ok1 0 oc.1
    have e14 : x_i M (m + 14) ((40 : Int32) * nI k).toNatClampNeg = nI (m_k (K k) 0) := by
      rw [e40, nI_clamp (by omega)]
      exact oI.2.1 0 oc.1
    rw [e14, show (0 : Int32) = nI 0 from rfl, nI_eq (by omega) (by omega)]
    have hac : acG (y_b S) (m_s (K k)) (m_k (K k)) 0 ↔ m_k (K k) 0 = 1 := Iff.rfl
    refine ⟨fun c0 => ?_, fun c0 => ?_⟩
    · have hn : ¬ acG (y_b S) (m_s (K k)) (m_k (K k)) 0 := fun z => by rw [hac] at z; omega
      exact ur_next48 (d + 1) hS g0 hg oI (A := 0) (by omega) (Or.inl ⟨c, rfl⟩) (fun M1 res g hr => hq1 0 hv M1 res g (hr.gt hn))
    · exact hq1 0 hv M _ FrM.rf (Or.inl ⟨0, Nat.le_refl 0, by rw [hac]; omega, fun y h3 h4 => by omega, rfl⟩)
theorem w_next (d : Nat) (hS : CoS M e) (hW : SgW S) (hM : MaW S R K) (hB : CoB M e S) (hQs : CoQ M e S K) {x : Int32} {l : Int64}
    (hQ0 : (∀ k, k < y_qc S → x = nI k → ¬ (x_i M (e + 540 + 8 * k) 1 = 0 ∧ x_i M (e + 540 + 8 * k) 3 = -1 ∧ pc (qd_n (y_q S k)) = 1)) → Q (some (.long (-2))) M)
    (hQ0b : (∀ a, ¬ nxV l a) → Q (some (.long (-2))) M)
    (hQ1 : ∀ k, k < y_qc S → x = nI k → x_i M (e + 540 + 8 * k) 1 = 0 → x_i M (e + 540 + 8 * k) 3 = -1 → pc (qd_n (y_q S k)) = 1 → ∀ a, nxV l a → ∀ M1 res, Fr M M1 [e + 524 + 4, e + 524 + 5, e + 524 + 6] → NxR (y_b S) (m_s (K k)) (m_k (K k)) a res → Q (some (.long res)) M1) :
    Call G (d + 5) 0 0 mX11_next [.ref e, .int x, .long l] M Q := by
  obtain ⟨a1, a2, a3, a4, a5, a6, a7, a8, a9, a10, a11, a12, b1, b2, b3, b4, b5, b6, b7, b8, c1, c2, c3, c4, c5, c6, c7, d1, d2, d3⟩ := hS
  have hb := hW.1
  have hqc := hW.2.2.2.2.2.2.1
  obtain ⟨f11, f12, f13, f14, f15⟩ := id hB
  have hnf : ∀ k, k < y_qc S → x_i M (e + 540 + 8 * k) 1 = 0 → x_i M (e + 540 + 8 * k) 3 = -1 → x_i M (e + 540 + 8 * k) 4 = nI (qd_n (y_q S k)) ∧ qd_n (y_q S k) < 256 := fun k hk g1 g2 => by
    obtain ⟨-, -, o4, o256, -⟩ := ok_c hW hM hQs hk g1 g2
    exact ⟨o4, o256⟩
  refine eX11_next e _ _ ⟨a1, ?_⟩
  show Call G (d + 4) 0 0 mX11_askedOf [.ref e, .int x, .int (nI 1)] M _
  refine w_askedN (d + 1) a1 a3 b2 f13 hqc (by omega) hnf (fun h => ⟨none, rfl, fun _ => hQ0 h, fun v11 z => (by cases z)⟩) (fun k hk ek g1 g2 gp => ⟨some (e + 540 + 8 * k + 1), rfl, fun z => (by cases z), fun v11 ev => ?_⟩)
  cases ev
  have hq1 := hQ1 k hk ek g1 g2 gp
  obtain ⟨oI, ⟨⟨β, oc⟩, o40, ok1, o00⟩, o4, o256, o3, o27⟩ := ok_c hW hM hQs hk g1 g2
  obtain ⟨q1, q2, q3, q4⟩ := b2.2 k (by omega)
  have ef : fn (y_b S) (qd_n (y_q S k)) = y_b S := by unfold fn; rw [gp, Nat.pow_one]
  rw [ef] at oI oc
  rw [lg_cmp_lt, lg_cmp_le]
  refine ⟨fun c => hQ0b (fun a ha => ha.rng.1 c), fun c1' => ⟨fun c2' => ?_, fun c2' => hQ0b (fun a ha => c2' ha.rng.2)⟩⟩
  obtain ⟨a, hv⟩ := nxV.ex c1' c2'
  refine ⟨a1, e + 524, a11, c7.1, ?_⟩
  rw [f11]
  refine w_leastAbove d c7 (o := e + 540 + 8 * k + 1) (mv := e + 540 + 8 * k + 2) (mk := e + 540 + 8 * k + 3) ⟨hb, oc.1, o40, oc.2.1, ok1, o00, by simp; omega⟩ ⟨q4, oI⟩ hv.add.1 hv.add.2 (fun M1 res g hr => ⟨_, rfl, hq1 a hv M1 res g hr⟩)
theorem op_next (d : Nat) {x : Int32} {l : Int64} : COp G (d + 5) e m mX11_next mX12_next_ [.int x, .long l] := by
  intro M hC0
  obtain ⟨hem, S, R, K, hW, hM, hCo, hRe⟩ := hC0.one
  obtain ⟨cS, cB, cT, cH, cR, cQ, cA⟩ := id hCo
  obtain ⟨rS, rB, rT, rH, rR, rQ, rA⟩ := id hRe
  have hqc := hW.2.2.2.2.2.2.1
  have t1 : ∀ k, k < y_qc S → (x_i M (e + 540 + 8 * k) 1 = 0 ↔ x_i M (m + 6) k = 0) := fun k hk => (ask_c hW cQ hk).1.trans (ask_r hW rQ hk).1.symm
  have t2 : ∀ k, k < y_qc S → (x_i M (e + 540 + 8 * k) 3 = -1 ↔ x_i M (m + 8) k = -1) := fun k hk => (ask_c hW cQ hk).2.trans (ask_r hW rQ hk).2.symm
  refine w_next d cS hW hM cB cQ (fun h => ⟨_, rfl, ?_⟩) (fun h => ⟨_, rfl, ?_⟩) (fun k hk ek g1 g2 gp a ha M1 res g hr => ?_)
  · exact ur_next_ (d + 1) rS hW hM rB rQ (fun _ => ⟨rfl, hC0⟩) (fun _ => ⟨rfl, hC0⟩) (fun k hk ek g1 g2 gp a _ M1 res _ _ => absurd ⟨(t1 k hk).mpr g1, (t2 k hk).mpr g2, gp⟩ (h k hk ek))
  · exact ur_next_ (d + 1) rS hW hM rB rQ (fun _ => ⟨rfl, hC0⟩) (fun _ => ⟨rfl, hC0⟩) (fun k hk ek g1 g2 gp a ha M1 res _ _ => absurd ha (h a))
  have hC1 : CRel M1 e m := hC0.fP (g.P (P := fun q => e + 14 ≤ q ∧ q ≤ e + 533) (fun q hq => by simp at hq; omega)) (fun q hq => hq)
  have o : ∀ q, m ≤ q → x_i M1 q = x_i M q := fun q hq => g.i (by simp; omega)
  have hR1 : ReAll M1 m S R K := hRe.up g.h (by rw [g.r]) o
  obtain ⟨rS, rB, rT, rH, rR, rQ, rA⟩ := hR1
  have u1 : ∀ k, x_i M1 (m + 6) k = x_i M (m + 6) k := fun k => by rw [o _ (by omega)]
  have u2 : ∀ k, x_i M1 (m + 8) k = x_i M (m + 8) k := fun k => by rw [o _ (by omega)]
  refine ⟨_, rfl, ur_next_ (d + 1) rS hW hM rB rQ (fun h => ?_) (fun h => absurd ha (h a)) (fun k' hk' ek' g1' g2' gp' a' ha' M2 res' f hr' => ?_)⟩
  · exact absurd ⟨by rw [u1]; exact (t1 k hk).mp g1, by rw [u2]; exact (t2 k hk).mp g2, gp⟩ (h k hk ek)
  · have := nI_same ek ek' (by omega) (by omega)
    subst this
    have := ha.one ha'
    subst this
    rw [hr'.one hr]
    exact ⟨rfl, hC1.fM f (by simp) (by simp)⟩
end OpNext2
