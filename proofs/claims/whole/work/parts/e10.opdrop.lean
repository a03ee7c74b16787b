/-! ===== both alike: drop, whole ===== -/
section OpDrop2
variable {G : GG} {M M' : Mem} {e m b : Nat} {S S' : Sg} {R K : Nat → Mc} {Q : Option Value → Mem → Prop}
def lsR (S : Sg) : Sg := (y_b S, y_L S, y_t S, y_so S, y_sz S, y_cf S, y_rc S - 1, y_kd S, y_oq S, y_qc S, y_q S, y_tr S, 0)
def lsQ (S : Sg) : Sg := (y_b S, y_L S, y_t S, y_so S, y_sz S, y_cf S, y_rc S, y_kd S, y_oq S, y_qc S - 1, y_q S, y_tr S, 0)
theorem op_drop (d : Nat) {x : Int32} : COp G (d + 3) e m mX11_drop mX12_drop [.int x] := by
  intro M hC0
  obtain ⟨hem, S, R, K, hW, hM, hCo, hRe⟩ := hC0.one
  obtain ⟨cS, cB, cT, cH, cR, cQ, cA⟩ := id hCo
  have hrc := hW.2.2.2.2.1
  have hqc := hW.2.2.2.2.2.2.1
  refine eX11_drop e x ⟨fun n0 => ⟨fun n1 => ⟨cS.1, w_refuse (d + 1) cS.1 ?_⟩, fun h1 => ⟨cS.1, ?_⟩⟩, fun h0 => ⟨cS.1, ?_⟩⟩
  · refine ⟨_, rfl, _, rfl, ?_⟩
    have hR4 := hRe.lo (q := e) (k := 15) (v := 1) (by omega)
    refine eX12_drop m _ (u_inI (d + 1) (x := x) (y := 0) (z := 1) (by omega) (by omega) (by omega) (by omega) ?_)
    rw [if_neg ?_]
    · exact ⟨_, rfl, fun c => absurd rfl c, fun _ => ⟨hR4.1.1, u_refused (d + 1) hR4.1 ⟨_, rfl, rfl, hC0.st2⟩⟩⟩
    · rintro ⟨h1, h2⟩
      have : x.toInt = 0 ∨ x.toInt = 1 := by omega
      rcases this with c | c
      · exact n0 (Int32.toInt_inj.mp c)
      · exact n1 (Int32.toInt_inj.mp c)
  · subst h1
    refine w_dropQuestion d cS hW cB cR (fun hf => ?_) (fun hf => ?_)
    · refine ⟨_, rfl, _, rfl, ?_⟩
      obtain ⟨rS, rB, rT, rH, rR, rQ, rA⟩ := hRe.lo (q := e) (k := 15) (v := 3) (by omega)
      exact ur_dropQ (d + 1) rS hW rB rR (fun _ => ⟨rfl, hC0.st2⟩) (fun h => absurd h hf)
    · refine ⟨_, rfl, _, rfl, ?_⟩
      have hW' : SgW (lsQ S) := by
        obtain ⟨w1, w2, w3, w4, w5, w6, w7, w8, w9⟩ := hW
        exact ⟨w1, w2, w3, w4, w5, w6, Nat.le_trans (Nat.sub_le _ _) w7, fun k hk => w8 k (Nat.lt_of_lt_of_le hk (Nat.sub_le _ _)), w9⟩
      have hM' : MaW (lsQ S) R K := ⟨hM.1, fun k hk => hM.2 k (Nat.lt_of_lt_of_le hk (Nat.sub_le _ _))⟩
      have hR4 := (hRe.lo (q := e) (k := 13) (v := nI (y_qc S - 1)) (by omega)).lo (q := e) (k := 15) (v := 0) (by omega)
      have hC4 : CoAll (x_si (x_si M e 13 (nI (y_qc S - 1))) e 15 0) e (lsQ S) R K := by
        have o : ∀ q, q ≠ e → x_i (x_si (x_si M e 13 (nI (y_qc S - 1))) e 15 0) q = x_i M q := fun q hq => by funext j; rw [xi_na hq, xi_na hq]
        obtain ⟨f11, f12, f13, f14, f15⟩ := cB
        refine ⟨cS.eq rfl rfl, ⟨?_, ?_, ?_, ?_, xi_eq⟩, cT.fr (o _ (by omega)) rfl rfl, cH.fr (fun q h1 _ => o q (by omega)) rfl rfl rfl, cR.fr hrc (fun q h1 _ => o q (by omega)) rfl rfl rfl (Nat.le_refl _), cQ.fr hqc (fun q h1 _ => o q (by omega)) rfl rfl (Nat.sub_le _ _), cA.fr (fun q h1 _ => o q (by omega)) rfl⟩
        · rw [xi_nk (by omega), xi_nk (by omega)]; exact f11
        · rw [xi_nk (by omega), xi_nk (by omega)]; exact f12
        · rw [xi_nk (by omega), xi_eq]; rfl
        · rw [xi_nk (by omega), xi_nk (by omega)]; exact f14
      generalize x_si (x_si M e 13 (nI (y_qc S - 1))) e 15 0 = M5 at hR4 hC4 ⊢
      obtain ⟨rS, rB, rT, rH, rR, rQ, rA⟩ := hR4
      refine ur_dropQ (d + 1) rS hW rB rR (fun h => absurd hf h) (fun _ => ⟨rfl, CRel.mk1 (S := lsQ S) hem hW' hM' (((hC4.hi hW' (by omega)).hi hW' (by omega)).hi hW' (by omega)) ?_⟩)
      have o : ∀ q, q ≠ 0 → x_i (x_si (x_si (x_si M5 m 1 (nI (y_rc S))) m 7 (nI (y_qc S - 1))) m 22 0) (m + q) = x_i M5 (m + q) := fun q hq => by funext j; rw [xi_na (by omega), xi_na (by omega), xi_na (by omega)]
      obtain ⟨b0, b1, b7, b18, b22, b24⟩ := rB
      refine ⟨rS.eq rfl rfl, ⟨?_, ?_, ?_, ?_, xi_eq, ?_⟩, rT.fr (o _ (by omega)) rfl rfl, rH.fr (fun q h1 _ => o q (by omega)) rfl rfl rfl, rR.fr (fun q h1 _ => o q (by omega)) rfl rfl rfl (Nat.le_refl _), rQ.fr (fun q h1 _ => o q (by omega)) rfl rfl (Nat.sub_le _ _), rA.fr (o _ (by omega)) rfl⟩
      · rw [xi_nk (by omega), xi_nk (by omega), xi_nk (by omega)]; exact b0
      · rw [xi_nk (by omega), xi_nk (by omega), xi_eq]; rfl
      · rw [xi_nk (by omega), xi_eq]; rfl
      · rw [xi_nk (by omega), xi_nk (by omega), xi_nk (by omega)]; exact b18
      · rw [xi_nk (by omega), xi_nk (by omega), xi_nk (by omega)]; exact b24
  · subst h0
    refine w_dropRow d cS hW cB cQ (fun hf => ?_) (fun hf => ?_)
    · refine ⟨_, rfl, _, rfl, ?_⟩
      obtain ⟨rS, rB, rT, rH, rR, rQ, rA⟩ := hRe.lo (q := e) (k := 15) (v := 3) (by omega)
      exact ur_dropRow (d + 1) rS hW rB rQ (fun _ => ⟨rfl, hC0.st2⟩) (fun h => absurd h hf)
    · refine ⟨_, rfl, _, rfl, ?_⟩
      have hW' : SgW (lsR S) := by
        obtain ⟨w1, w2, w3, w4, w5, w6, w7, w8, w9⟩ := hW
        exact ⟨w1, w2, w3, w4, Nat.le_trans (Nat.sub_le _ _) w5, fun i hi => w6 i (Nat.lt_of_lt_of_le hi (Nat.sub_le _ _)), w7, w8, w9⟩
      have hM' : MaW (lsR S) R K := ⟨fun i hi => hM.1 i (Nat.lt_of_lt_of_le hi (Nat.sub_le _ _)), hM.2⟩
      have hR4 := (hRe.lo (q := e) (k := 12) (v := nI (y_rc S - 1)) (by omega)).lo (q := e) (k := 15) (v := 0) (by omega)
      have hC4 : CoAll (x_si (x_si M e 12 (nI (y_rc S - 1))) e 15 0) e (lsR S) R K := by
        have o : ∀ q, q ≠ e → x_i (x_si (x_si M e 12 (nI (y_rc S - 1))) e 15 0) q = x_i M q := fun q hq => by funext j; rw [xi_na hq, xi_na hq]
        obtain ⟨f11, f12, f13, f14, f15⟩ := cB
        refine ⟨cS.eq rfl rfl, ⟨?_, ?_, ?_, ?_, xi_eq⟩, cT.fr (o _ (by omega)) rfl rfl, cH.fr (fun q h1 _ => o q (by omega)) rfl rfl rfl, cR.fr hrc (fun q h1 _ => o q (by omega)) rfl rfl rfl (Nat.sub_le _ _), cQ.fr hqc (fun q h1 _ => o q (by omega)) rfl rfl (Nat.le_refl _), cA.fr (fun q h1 _ => o q (by omega)) rfl⟩
        · rw [xi_nk (by omega), xi_nk (by omega)]; exact f11
        · rw [xi_nk (by omega), xi_eq]; rfl
        · rw [xi_nk (by omega), xi_nk (by omega)]; exact f13
        · rw [xi_nk (by omega), xi_nk (by omega)]; exact f14
      generalize x_si (x_si M e 12 (nI (y_rc S - 1))) e 15 0 = M5 at hR4 hC4 ⊢
      obtain ⟨rS, rB, rT, rH, rR, rQ, rA⟩ := hR4
      refine ur_dropRow (d + 1) rS hW rB rQ (fun h => absurd hf h) (fun _ => ⟨rfl, CRel.mk1 (S := lsR S) hem hW' hM' (((hC4.hi hW' (by omega)).hi hW' (by omega)).hi hW' (by omega)) ?_⟩)
      have o : ∀ q, q ≠ 0 → x_i (x_si (x_si (x_si M5 m 1 (nI (y_rc S - 1))) m 7 (nI (y_qc S))) m 22 0) (m + q) = x_i M5 (m + q) := fun q hq => by funext j; rw [xi_na (by omega), xi_na (by omega), xi_na (by omega)]
      obtain ⟨b0, b1, b7, b18, b22, b24⟩ := rB
      refine ⟨rS.eq rfl rfl, ⟨?_, ?_, ?_, ?_, xi_eq, ?_⟩, rT.fr (o _ (by omega)) rfl rfl, rH.fr (fun q h1 _ => o q (by omega)) rfl rfl rfl, rR.fr (fun q h1 _ => o q (by omega)) rfl rfl rfl (Nat.sub_le _ _), rQ.fr (fun q h1 _ => o q (by omega)) rfl rfl (Nat.le_refl _), rA.fr (o _ (by omega)) rfl⟩
      · rw [xi_nk (by omega), xi_nk (by omega), xi_nk (by omega)]; exact b0
      · rw [xi_nk (by omega), xi_nk (by omega), xi_eq]; rfl
      · rw [xi_nk (by omega), xi_eq]; rfl
      · rw [xi_nk (by omega), xi_nk (by omega), xi_nk (by omega)]; exact b18
      · rw [xi_nk (by omega), xi_nk (by omega), xi_nk (by omega)]; exact b24
end OpDrop2
