/-! ===== both alike: many, values ===== -/
section OpMany
variable {G : GG} {M M' : Mem} {e m b q : Nat} {mc : Mc} {S : Sg} {R K : Nat → Mc} {Q : Option Value → Mem → Prop}
theorem ur_many (d : Nat) (hS : ReS M m) (hW : SgW S) (hM : MaW S R K) (hB : ReB M m S) (hQs : ReQs M m S K) {x : Int32}
    (hQ0 : (∀ k, k < y_qc S → x = nI k → ¬ (x_i M (m + 6) k = 0 ∧ x_i M (m + 8) k = -1 ∧ pc (qd_n (y_q S k)) = 1)) → Q (some (.long (-2))) M)
    (hQ1 : ∀ k, k < y_qc S → x = nI k → x_i M (m + 6) k = 0 → x_i M (m + 8) k = -1 → pc (qd_n (y_q S k)) = 1 → ∀ M1 res, FrM M M1 m [] [58, 62, 63, 64] → CtR (y_b S) (m_n (K k)) (m_s (K k)) (m_k (K k)) 1 [] res → Q (some (.long res)) M1) :
    Call G (d + 7) 0 0 mX12_many [.ref m, .int x] M Q := by
  have hb := hW.1
  have hqc := hW.2.2.2.2.2.2.1
  obtain ⟨g0, g1, g7, g18, g22, g24⟩ := id hB
  have hnf : ∀ k, k < y_qc S → x_i M (m + 6) k = 0 → x_i M (m + 8) k = -1 → x_i M (m + 9) k = nI (qd_n (y_q S k)) ∧ qd_n (y_q S k) < 256 := fun k hk h1 h2 => by
    obtain ⟨-, -, o4, o256, -⟩ := ok_r hW hM hQs hk h1 h2
    exact ⟨o4, o256⟩
  refine eX12_many m _ ⟨hS.1, ?_⟩
  show Call G (d + 6) 0 0 mX12_isOfOne [.ref m, .int x, .int (nI 1)] M _
  refine ur_isOfOne (d + 3) hS g7 hqc (by omega) hnf (fun h => ⟨0, rfl, fun _ => hQ0 h, fun c => absurd rfl c⟩) (fun k hk ek h1 h2 gp => ⟨1, rfl, fun c => absurd c (by decide), fun _ => ⟨hS.1, ?_⟩⟩)
  have hq1 := hQ1 k hk ek h1 h2 gp
  obtain ⟨oI, ⟨⟨β, oc⟩, o40, ok1, o00⟩, o4, o256, o3, o27⟩ := ok_r hW hM hQs hk h1 h2
  have ef : fn (y_b S) (qd_n (y_q S k)) = y_b S * 1 := by unfold fn; rw [gp, Nat.pow_one, Nat.mul_one]
  subst ek
  show Call G (d + 6) 0 0 mX12_howMany [.ref m, .int (nI k), .long (lN 0), .int (nI 0)] M _
  exact ur_howMany d (b := y_b S) (nf := qd_n (y_q S k)) (ap := 1) (mc := K k) (s := 0) (p := 0) (M := M) (m := m) ⟨hb, by omega, o256, o27, ef, by omega, oc.1, o40, oc.2.1, ok1, o00⟩ ⟨hS, g0, o4, oI⟩ (by omega) (by omega) (fun h => absurd h (Nat.lt_irrefl 0)) (fun M1 res g hr => ⟨_, rfl, hq1 M1 res g hr⟩)
theorem ur_values (d : Nat) (hS : ReS M m) (hW : SgW S) (hM : MaW S R K) (hB : ReB M m S) (hQs : ReQs M m S K) {x : Int32} {l : Int64}
    (hQ0 : (∀ k, k < y_qc S → x = nI k → ¬ (x_i M (m + 6) k = 0 ∧ x_i M (m + 8) k = -1 ∧ pc (qd_n (y_q S k)) = 2)) → Q (some (.long (-2))) M)
    (hQ0b : (∀ s, ¬ vaV l s) → Q (some (.long (-2))) M)
    (hQ1 : ∀ k, k < y_qc S → x = nI k → x_i M (m + 6) k = 0 → x_i M (m + 8) k = -1 → pc (qd_n (y_q S k)) = 2 → ∀ s, vaV l s → ∀ M1 res, FrM M M1 m [] [58, 62, 63, 64] → CtR (y_b S) (m_n (K k)) (m_s (K k)) (m_k (K k)) (y_b S) (dD (y_b S) s 31) res → Q (some (.long res)) M1) :
    Call G (d + 7) 0 0 mX12_values [.ref m, .int x, .long l] M Q := by
  have hb := hW.1
  have hqc := hW.2.2.2.2.2.2.1
  obtain ⟨g0, g1, g7, g18, g22, g24⟩ := id hB
  have hnf : ∀ k, k < y_qc S → x_i M (m + 6) k = 0 → x_i M (m + 8) k = -1 → x_i M (m + 9) k = nI (qd_n (y_q S k)) ∧ qd_n (y_q S k) < 256 := fun k hk h1 h2 => by
    obtain ⟨-, -, o4, o256, -⟩ := ok_r hW hM hQs hk h1 h2
    exact ⟨o4, o256⟩
  refine eX12_values m _ _ ⟨hS.1, ?_⟩
  show Call G (d + 6) 0 0 mX12_isOfOne [.ref m, .int x, .int (nI 2)] M _
  refine ur_isOfOne (d + 3) hS g7 hqc (by omega) hnf (fun h => ⟨0, rfl, fun _ => hQ0 h, fun c => absurd rfl c⟩) (fun k hk ek h1 h2 gp => ⟨1, rfl, fun c => absurd c (by decide), fun _ => ?_⟩)
  have hq1 := hQ1 k hk ek h1 h2 gp
  obtain ⟨oI, ⟨⟨β, oc⟩, o40, ok1, o00⟩, o4, o256, o3, o27⟩ := ok_r hW hM hQs hk h1 h2
  have ef : fn (y_b S) (qd_n (y_q S k)) = y_b S * y_b S := by unfold fn; rw [gp, Nat.pow_two]
  subst ek
  refine eX12_isOutside _ _ _ ?_
  rw [lg_cmp_lt, lg_cmp_le]
  refine ⟨fun c => ⟨1, rfl, fun z => absurd z (by decide), fun _ => hQ0b (fun s hs => ?_)⟩, fun c => ?_⟩
  · have := hs.1
    rw [hs.2, show (0 : Int64) = lN 0 from rfl, pk_lLT (by omega) (by omega)] at c
    omega
  obtain ⟨s, hs63, rfl⟩ := pk_lOf c
  rw [show (1073741824 : Int64) = lN 1073741824 from rfl, pk_lLE hs63 (by omega)]
  refine ⟨fun c2 => ⟨0, rfl, fun _ => ⟨hS.1, ?_⟩, fun z => absurd rfl z⟩, fun c2 => ⟨1, rfl, fun z => absurd z (by decide), fun _ => hQ0b (fun s' hs' => ?_)⟩⟩
  · show Call G (d + 6) 0 0 mX12_howMany [.ref m, .int (nI k), .long (lN s), .int (nI 31)] M _
    exact ur_howMany d (b := y_b S) (nf := qd_n (y_q S k)) (ap := y_b S) (mc := K k) (s := s) (p := 31) (M := M) (m := m) ⟨hb, by omega, o256, o27, ef, by omega, oc.1, o40, oc.2.1, ok1, o00⟩ ⟨hS, g0, o4, oI⟩ (by omega) hs63 (fun _ => ⟨gp, rfl⟩) (fun M1 res g hr => ⟨_, rfl, hq1 s ⟨c2, rfl⟩ M1 res g hr⟩)
  · have := (pk_lEQ hs63 (by have := hs'.1; omega)).mp hs'.2
    have := hs'.1
    omega
theorem op_many (d : Nat) {x : Int32} : COp G (d + 7) e m mX11_many mX12_many [.int x] := by
  intro M hC0
  obtain ⟨hem, S, R, K, hW, hM, hCo, hRe⟩ := hC0.one
  obtain ⟨cS, cB, cT, cH, cR, cQ, cA⟩ := id hCo
  obtain ⟨rS, rB, rT, rH, rR, rQ, rA⟩ := id hRe
  have hqc := hW.2.2.2.2.2.2.1
  have hb := hW.1
  have t1 : ∀ k, k < y_qc S → (x_i M (e + 540 + 8 * k) 1 = 0 ↔ x_i M (m + 6) k = 0) := fun k hk => (ask_c hW cQ hk).1.trans (ask_r hW rQ hk).1.symm
  have t2 : ∀ k, k < y_qc S → (x_i M (e + 540 + 8 * k) 3 = -1 ↔ x_i M (m + 8) k = -1) := fun k hk => (ask_c hW cQ hk).2.trans (ask_r hW rQ hk).2.symm
  refine w_many (d + 2) cS hW hM cB cQ (fun h => ⟨_, rfl, ?_⟩) (fun k hk ek g1 g2 gp M1 res g hr => ?_)
  · exact ur_many d rS hW hM rB rQ (fun _ => ⟨rfl, hC0⟩) (fun k hk ek g1 g2 gp M1 res _ _ => absurd ⟨(t1 k hk).mpr g1, (t2 k hk).mpr g2, gp⟩ (h k hk ek))
  have hC1 : CRel M1 e m := hC0.fP (g.P (P := fun q => e + 14 ≤ q ∧ q ≤ e + 533) (fun q hq => by simp at hq; omega)) (fun q hq => hq)
  have o : ∀ q, m ≤ q → x_i M1 q = x_i M q := fun q hq => g.i (by simp; omega)
  have hR1 : ReAll M1 m S R K := hRe.up g.h (by rw [g.r]) o
  obtain ⟨rS, rB, rT, rH, rR, rQ, rA⟩ := hR1
  have u1 : ∀ k, x_i M1 (m + 6) k = x_i M (m + 6) k := fun k => by rw [o _ (by omega)]
  have u2 : ∀ k, x_i M1 (m + 8) k = x_i M (m + 8) k := fun k => by rw [o _ (by omega)]
  refine ⟨_, rfl, ur_many d rS hW hM rB rQ (fun h => ?_) (fun k' hk' ek' g1' g2' gp' M2 res' f hr' => ?_)⟩
  · exact absurd ⟨by rw [u1]; exact (t1 k hk).mp g1, by rw [u2]; exact (t2 k hk).mp g2, gp⟩ (h k hk ek)
  · have := nI_same ek ek' (by omega) (by omega)
    subst this
    obtain ⟨-, ⟨-, -, -, o00⟩, -⟩ := ok_c hW hM cQ hk g1 g2
    rw [hr'.one (by omega) o00 hr]
    exact ⟨rfl, hC1.fM f (by simp) (by simp)⟩
theorem op_values (d : Nat) {x : Int32} {l : Int64} : COp G (d + 7) e m mX11_values mX12_values [.int x, .long l] := by
  intro M hC0
  obtain ⟨hem, S, R, K, hW, hM, hCo, hRe⟩ := hC0.one
  obtain ⟨cS, cB, cT, cH, cR, cQ, cA⟩ := id hCo
  obtain ⟨rS, rB, rT, rH, rR, rQ, rA⟩ := id hRe
  have hqc := hW.2.2.2.2.2.2.1
  have hb := hW.1
  have t1 : ∀ k, k < y_qc S → (x_i M (e + 540 + 8 * k) 1 = 0 ↔ x_i M (m + 6) k = 0) := fun k hk => (ask_c hW cQ hk).1.trans (ask_r hW rQ hk).1.symm
  have t2 : ∀ k, k < y_qc S → (x_i M (e + 540 + 8 * k) 3 = -1 ↔ x_i M (m + 8) k = -1) := fun k hk => (ask_c hW cQ hk).2.trans (ask_r hW rQ hk).2.symm
  refine w_values (d + 2) cS hW hM cB cQ (fun h => ⟨_, rfl, ?_⟩) (fun h => ⟨_, rfl, ?_⟩) (fun k hk ek g1 g2 gp s hs M1 res t ht hst g hr => ?_)
  · exact ur_values d rS hW hM rB rQ (fun _ => ⟨rfl, hC0⟩) (fun _ => ⟨rfl, hC0⟩) (fun k hk ek g1 g2 gp s _ M1 res _ _ => absurd ⟨(t1 k hk).mpr g1, (t2 k hk).mpr g2, gp⟩ (h k hk ek))
  · exact ur_values d rS hW hM rB rQ (fun _ => ⟨rfl, hC0⟩) (fun _ => ⟨rfl, hC0⟩) (fun k hk ek g1 g2 gp s hs M1 res _ _ => absurd hs (h s))
  have hC1 : CRel M1 e m := hC0.fP (g.P (P := fun q => e + 14 ≤ q ∧ q ≤ e + 533) (fun q hq => by simp at hq; omega)) (fun q hq => hq)
  have o : ∀ q, m ≤ q → x_i M1 q = x_i M q := fun q hq => g.i (by simp; omega)
  have hR1 : ReAll M1 m S R K := hRe.up g.h (by rw [g.r]) o
  obtain ⟨rS, rB, rT, rH, rR, rQ, rA⟩ := hR1
  have u1 : ∀ k, x_i M1 (m + 6) k = x_i M (m + 6) k := fun k => by rw [o _ (by omega)]
  have u2 : ∀ k, x_i M1 (m + 8) k = x_i M (m + 8) k := fun k => by rw [o _ (by omega)]
  refine ⟨_, rfl, ur_values d rS hW hM rB rQ (fun h => ?_) (fun h => absurd hs (h s)) (fun k' hk' ek' g1' g2' gp' s' hs' M2 res' f hr' => ?_)⟩
  · exact absurd ⟨by rw [u1]; exact (t1 k hk).mp g1, by rw [u2]; exact (t2 k hk).mp g2, gp⟩ (h k hk ek)
  · have := nI_same ek ek' (by omega) (by omega)
    subst this
    have := hs.one hs'
    subst this
    obtain ⟨-, ⟨⟨β, oc⟩, -, -, o00⟩, -⟩ := ok_c hW hM cQ hk g1 g2
    have ef : fn (y_b S) (qd_n (y_q S k)) = y_b S * y_b S := by unfold fn; rw [gp, Nat.pow_two]
    have hcl : ∀ i, i < m_n (K k) → ∀ g, g < y_b S → m_s (K k) i (g * y_b S) < m_n (K k) := fun i hi g hg => oc.2.1 i hi _ (by
      rw [ef]
      have : (g + 1) * y_b S ≤ y_b S * y_b S := Nat.mul_le_mul_right _ hg
      rw [Nat.succ_mul] at this
      omega)
    rw [show (31 : Nat) = (31 - t) + t by omega, dD_zz (by omega) hst] at hr'
    rw [(hr'.shift hcl oc.1).one (by omega) o00 hr]
    exact ⟨rfl, hC1.fM f (by simp) (by simp)⟩
end OpMany
