/-! ===== both alike: feed ===== -/
section OpFeed2
variable {G : GG} {M M' : Mem} {e m b : Nat} {S S' : Sg} {R K : Nat → Mc} {Q : Option Value → Mem → Prop}
def feT (S : Sg) (n : Nat) (l : Int64) : Sg := (y_b S, y_L S + n, (fun i => if i < y_L S then y_t S i else byt l (i - y_L S)), y_so S, y_sz S, y_cf S, y_rc S, y_kd S, y_oq S, y_qc S, y_q S, y_tr S, 0)
theorem op_feed (d : Nat) {x : Int32} {l : Int64} : COp G (d + 2) e m mX11_feed mX12_feed [.int x, .long l] := by
  intro M hC0
  obtain ⟨hem, S, R, K, hW, hM, hCo, hRe⟩ := hC0.one
  obtain ⟨cS, cB, cT, cH, cR, cQ, cA⟩ := id hCo
  have hrc := hW.2.2.2.2.1
  have hqc := hW.2.2.2.2.2.2.1
  refine w_feed d cS hW cB (fun c hc => ?_) (fun n hg M1 fr ef e14 e15 hold hnew => ?_)
  · refine ⟨_, rfl, ?_⟩
    obtain ⟨rS, rB, rT, rH, rR, rQ, rA⟩ := hRe.lo (q := e) (k := 15) (v := c) (by omega)
    exact ur_feed d rS hW rB (fun c' hc' => ⟨rfl, by rw [hc'.one hc]; exact hC0.st2⟩) (fun n hg => (hc.no hg).elim)
  refine ⟨_, rfl, ?_⟩
  have hL' : y_L S + n ≤ 120 := hg.2.2.2
  have hW' : SgW (feT S n l) := by
    obtain ⟨w1, w2, w3, w4, w5, w6, w7, w8, w9⟩ := hW
    refine ⟨w1, hL', fun i hi => ?_, w4, w5, w6, w7, w8, w9⟩
    show (if i < y_L S then y_t S i else byt l (i - y_L S)) < 256
    by_cases c : i < y_L S
    · rw [if_pos c]; exact w3 i c
    · rw [if_neg c]; exact byt_lt
  have hM' : MaW (feT S n l) R K := hM
  have oC : ∀ q, q ≠ e → q ≠ e + 3 → x_i M1 q = x_i M q := fun q h1 h2 => fr.i (by simp; omega)
  have hR4 : ReAll M1 m S R K := hRe.up fr.h (by rw [fr.r]) (fun q hq => oC q (by omega) (by omega))
  have hC4 : CoAll M1 e (feT S n l) R K := by
    obtain ⟨f11, f12, f13, f14, f15⟩ := cB
    refine ⟨cS.eq fr.h fr.r, ⟨(ef 11 (by omega) (by omega)).trans f11, (ef 12 (by omega) (by omega)).trans f12, (ef 13 (by omega) (by omega)).trans f13, e14, e15⟩, fun i hi => ?_, cH.fr (fun q h1 _ => oC q (by omega) (by omega)) rfl rfl rfl, cR.fr hrc (fun q h1 _ => oC q (by omega) (by omega)) rfl rfl rfl (Nat.le_refl _), cQ.fr hqc (fun q h1 _ => oC q (by omega) (by omega)) rfl rfl (Nat.le_refl _), cA.fr (fun q h1 _ => oC q (by omega) (by omega)) rfl⟩
    have hi' : i < y_L S + n := hi
    show x_i M1 (e + 3) i = nI (if i < y_L S then y_t S i else byt l (i - y_L S))
    by_cases c : i < y_L S
    · rw [if_pos c, hold i c]; exact cT i c
    · rw [if_neg c]
      have := hnew (i - y_L S) (by omega)
      rw [show y_L S + (i - y_L S) = i by omega] at this
      exact this
  obtain ⟨rS, rB, rT, rH, rR, rQ, rA⟩ := hR4
  refine ur_feed d rS hW rB (fun c hc => (hc.no hg).elim) (fun n' hg' M2 g2 e18 e22 hold2 hnew2 => ?_)
  have e1 := hg.one hg'
  subst e1
  have oR : ∀ q, q ≠ 0 → q ≠ 15 → x_i M2 (m + q) = x_i M1 (m + q) := fun q h1 h2 => g2.i h1 (by simp; omega)
  obtain ⟨b0, b1, b7, b18, b22, b24⟩ := rB
  refine ⟨rfl, CRel.mk1 (S := feT S n l) (R := R) (K := K) hem hW' hM' (hC4.fM hW' hem g2) ⟨g2.S rS, ⟨(g2.fm (by decide)).trans b0, (g2.fm (by decide)).trans b1, (g2.fm (by decide)).trans b7, e18, e22, (g2.fm (by decide)).trans b24⟩, fun i hi => ?_, rH.fr (fun q h1 h2 => oR q (by omega) (by omega)) rfl rfl rfl, rR.fr (fun q h1 h2 => oR q (by omega) (by omega)) rfl rfl rfl (Nat.le_refl _), rQ.fr (fun q h1 h2 => oR q (by omega) (by omega)) rfl rfl (Nat.le_refl _), rA.fr (oR _ (by omega) (by omega)) rfl⟩⟩
  have hi' : i < y_L S + n := hi
  show x_i M2 (m + 15) i = nI (if i < y_L S then y_t S i else byt l (i - y_L S))
  by_cases c : i < y_L S
  · rw [if_pos c, hold2 i c]; exact rT i c
  · rw [if_neg c]
    have := hnew2 (i - y_L S) (by omega)
    rw [show y_L S + (i - y_L S) = i by omega] at this
    exact this
end OpFeed2
