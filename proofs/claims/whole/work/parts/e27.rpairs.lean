/-! ===== the reference: pair, sought, with their heads ===== -/
section RPairsHead
variable {G : GG} {M M' : Mem} {e m b : Nat} {S S' : Sg} {R K : Nat → Mc} {Q : Option Value → Mem → Prop}
theorem ur_pair (d : Nat) (hS : ReS M m) (hW : SgW S) (hM : MaW S R K) (hB : ReB M m S) (hR : ReRw M m S R) {i j w : Int32} (hQ0 : ∀ c, rfL (paL S R i j w) c → ∀ M1, FrM M M1 m [25, 26, 29] [20, 21, 22, 23, 24, 25, 26, 27, 28, 29] → Q (some (.int (-1))) (x_si M1 m 22 c))
    (hQ1 : rfG (paL S R i j w) → ∀ M1 mc, AddM M M1 m S 3 (-1) mc → m_n mc ≤ 60 → mcan (y_b S) mc (paB R (iN i) (iN j) (iN w)) → Q (some (.int (nI (y_rc S)))) M1) : Call G (d + 5) 0 0 mX12_pair [.ref m, .int i, .int j, .int w] M Q := by
  have hb := hW.1
  have hrc := hW.2.2.2.2.1
  obtain ⟨g0, g1, g7, g18, g22, g24⟩ := id hB
  have refuse : ∀ c, rfL (paL S R i j w) c → Call G (d + 4) 0 0 mX12_refused [.ref m, .int c] M (fun r6 M7 => ∃ v8 : Int32, r6 = some (.int v8) ∧ Q (some (.int v8)) M7) := fun c h => u_refused (d + 3) hS ⟨_, rfl, hQ0 c h M FrM.rf⟩
  have bad : ¬ (iW i (y_rc S) ∧ iW j (y_rc S) ∧ iW w 3) → Call G (d + 4) 0 0 mX12_refused [.ref m, .int 1] M (fun r6 M7 => ∃ v8 : Int32, r6 = some (.int v8) ∧ Q (some (.int v8)) M7) := fun h => refuse 1 (Or.inl ⟨h, rfl⟩)
  refine eX12_pair m _ _ _ ⟨hS.1, ?_⟩
  refine ur_isRow (d + 2) hS g1 hrc (fun h => ⟨0, rfl, fun _ => ⟨hS.1, bad (fun z => iW.not h (by omega) z.1)⟩, fun z => absurd rfl z⟩) (fun i' hi ei => ⟨1, rfl, fun z => absurd z (by decide), fun _ => ⟨hS.1, ?_⟩⟩)
  refine ur_isRow (d + 2) hS g1 hrc (fun h => ⟨0, rfl, fun _ => ⟨hS.1, bad (fun z => iW.not h (by omega) z.2.1)⟩, fun z => absurd rfl z⟩) (fun j' hj ej => ⟨1, rfl, fun z => absurd z (by decide), fun _ => ?_⟩)
  refine ur_in0 (n := 3) (d + 3) (by omega) (fun h => ⟨0, rfl, fun z => absurd rfl z, fun _ => ⟨hS.1, bad (fun z => iW.not h (by omega) z.2.2)⟩⟩) (fun w' hw ew => ⟨1, rfl, fun _ => ⟨hS.1, ?_⟩, fun z => absurd z (by decide)⟩)
  have A1 : iW i (y_rc S) ∧ iW j (y_rc S) ∧ iW w 3 := ⟨by rw [ei]; exact iW_nI hi (by omega), by rw [ej]; exact iW_nI hj (by omega), by rw [ew]; exact iW_nI hw (by omega)⟩
  have ii : iN i = i' := by rw [ei]; exact iN_nI (by omega)
  have ij : iN j = j' := by rw [ej]; exact iN_nI (by omega)
  have iw : iN w = w' := by rw [ew]; exact iN_nI (by omega)
  have qT : ∀ c, rfL (paT S R i' j' w') c → ∀ M1, FrM M M1 m [25, 26, 29] [20, 21, 22, 23, 24, 25, 26, 27, 28, 29] → Q (some (.int (-1))) (x_si M1 m 22 c) := fun c h => hQ0 c (Or.inr ⟨A1, by rw [ii, ij, iw]; exact h⟩)
  have gT : rfG (paT S R i' j' w') → ∀ M1 mc, AddM M M1 m S 3 (-1) mc → m_n mc ≤ 60 → mcan (y_b S) mc (paB R i' j' w') → Q (some (.int (nI (y_rc S)))) M1 := fun h => by
    have := hQ1 ⟨A1, by rw [ii, ij, iw]; exact h⟩
    rw [ii, ij, iw] at this
    exact this
  clear hQ0 hQ1 bad refuse A1 ii ij iw
  subst ei ej ew
  rw [g1, show (10 : Int32) = nI 10 from rfl, nI_eq (by omega) (by omega)]
  refine ⟨fun cr' => ?_, fun cr => u_refused (d + 3) hS ⟨_, rfl, qT 2 (Or.inl ⟨by omega, rfl⟩) M FrM.rf⟩⟩
  have cr : y_rc S < 10 := by omega
  obtain ⟨⟨βi, ci⟩, gi2, gi3, gi4⟩ := hM.1 i' hi
  obtain ⟨⟨βj, cj⟩, gj2, gj3, gj4⟩ := hM.1 j' hj
  refine ur_noPairs (d + 2) hS (fun M1 f1 hpr => ⟨rfl, (f1.S hS).1, ?_⟩)
  rintro M28 rfl
  have s1 := f1.S hS
  have f2 : FrM M1 (x_si M1 m 26 (x_i M1 m 0)) m [26] [] := FrM.rf.sm (by decide)
  have f3 : FrM M (x_si M1 m 26 (x_i M1 m 0)) m [25, 26] [27, 28, 29] := (f1.wk (by decide) (by decide)).tr f2 (by decide) (by decide)
  have h0 : x_i M1 m 0 = nI (y_b S) := by rw [f1.fm (by decide)]; exact g0
  have o : ∀ k, k ≠ 0 → k ≤ 4 → x_i (x_si M1 m 26 (x_i M1 m 0)) (m + k) = x_i M (m + k) := fun k h1 h2 => f3.i h1 (by simp; omega)
  refine ur_bPair d (b := y_b S) (f2.S s1) (by omega) (by omega) (by rw [f3.fm (by decide)]; exact g0) (by omega) (by omega) (by omega) ((hR i' hi).2.2.fr f3 (by decide)) ((hR j' hj).2.2.fr f3 (by decide)) ⟨ci.1, gi2⟩ ⟨cj.1, gj2⟩ ci.2.1 cj.2.1 gi3 gj3 (hpr.fr f2 (by decide) (by decide)) (by rw [xi_eq]; exact h0) (by rw [f3.fm (by decide)]; exact g1) cr (fun M2 mc f hc h60 hN => gT ⟨cr, ⟨mc, hc, h60⟩, trivial⟩ M2 mc ⟨(f3.wk (by decide) (by decide)).tr f (by decide) (by decide), hN.pre o, fun z => absurd z (by decide), fun r _ => ?_⟩ h60 hc) (fun M2 f hno => qT 3 (Or.inr ⟨cr, Or.inl ⟨fun z => ?_, rfl⟩⟩) M2 ((f3.wk (by decide) (by decide)).tr f (by decide) (by decide)))
  · rw [f.i (by omega) (by decide), f3.i (by omega) (by decide)]
  · obtain ⟨mc, z1, z2⟩ := z
    have := hno mc z1
    omega
theorem ur_sought (d : Nat) (hS : ReS M m) (hW : SgW S) (hM : MaW S R K) (hB : ReB M m S) (hQs : ReQs M m S K) {x : Int32} (hQ0 : ∀ c, rfL (soL S x) c → Q (some (.int (-1))) (x_si M m 22 c))
    (hQ1 : rfG (soL S x) → x = nI (iN x) → iN x < y_qc S → ∀ M1 mc, AddM M M1 m S 4 (nI (iN x)) mc → m_n mc ≤ 60 → (∀ β, mcan (y_b S) (K (iN x)) β → mcan (y_b S) mc β) → Q (some (.int (nI (y_rc S)))) M1) : Call G (d + 5) 0 0 mX12_sought [.ref m, .int x] M Q := by
  have hb := hW.1
  have hrc := hW.2.2.2.2.1
  have hqc := hW.2.2.2.2.2.2.1
  obtain ⟨g0, g1, g7, g18, g22, g24⟩ := id hB
  refine eX12_sought m _ ⟨hS.1, ?_⟩
  rw [g7]
  refine ur_in0 (d + 3) (by omega) (fun h => ⟨0, rfl, fun z => absurd rfl z, fun _ => ⟨hS.1, u_refused (d + 3) hS ⟨_, rfl, hQ0 1 (Or.inl ⟨fun z => iW.not h (by omega) z, rfl⟩)⟩⟩⟩) (fun k hk ek => ⟨1, rfl, fun _ => ⟨hS.1, ?_⟩, fun z => absurd z (by decide)⟩)
  have A1 : iW x (y_qc S) := by rw [ek]; exact iW_nI hk (by omega)
  have ix : iN x = k := by rw [ek]; exact iN_nI (by omega)
  have qT : ∀ c, rfL (soT S k) c → Q (some (.int (-1))) (x_si M m 22 c) := fun c h => hQ0 c (Or.inr ⟨A1, by rw [ix]; exact h⟩)
  have gT : rfG (soT S k) → ∀ M1 mc, AddM M M1 m S 4 (nI k) mc → m_n mc ≤ 60 → (∀ β, mcan (y_b S) (K k) β → mcan (y_b S) mc β) → Q (some (.int (nI (y_rc S)))) M1 := fun h => by
    have := hQ1 ⟨A1, by rw [ix]; exact h⟩
    rw [ix] at this
    exact this ek hk
  clear hQ0 hQ1 A1 ix
  subst ek
  rw [g1, show (10 : Int32) = nI 10 from rfl, nI_eq (by omega) (by omega)]
  refine ⟨fun cr' => ?_, fun cr => u_refused (d + 3) hS ⟨_, rfl, qT 2 (Or.inl ⟨by omega, rfl⟩)⟩⟩
  have cr : y_rc S < 10 := by omega
  refine ur_canAsk (d + 2) hS g7 hqc (fun h => ⟨0, rfl, fun _ => ⟨hS.1, u_refused (d + 3) hS ⟨_, rfl, qT 3 (Or.inr ⟨cr, Or.inl ⟨fun z => ?_, rfl⟩⟩)⟩⟩, fun z => absurd rfl z⟩) (fun k' hk' ek' k1 k2 => ⟨1, rfl, fun z => absurd z (by decide), fun _ => ⟨hS.1, ?_⟩⟩)
  · exact h k hk rfl ⟨(ask_r hW hQs hk).1.mpr z.1, (ask_r hW hQs hk).2.mpr z.2.1⟩
  have := nI_same rfl ek' (by omega) (by omega)
  subst this
  obtain ⟨oI, ⟨⟨β, oc⟩, o40, ok1, o00⟩, o4, o256, o3, o27⟩ := ok_r hW hM hQs hk k1 k2
  refine ⟨m + 9, hS.r9, by rw [hS.h9], by rw [hS.h9]; exact vp_in_nI (show k < 10 by omega) (by omega), ?_⟩
  rw [nI_clamp (by omega), o4]
  refine u_bits (d + 3) o256 ⟨_, rfl, ?_⟩
  rw [show (1 : Int32) = nI 1 from rfl, nI_eq (by omega) (by omega)]
  refine ⟨fun gp => ⟨hS.1, m + 12, hS.r12, by rw [hS.h12], by rw [hS.h12]; exact vp_in_nI (show k < 10 by omega) (by omega), ?_⟩, fun gp => ⟨hS.1, u_refused (d + 3) hS ⟨_, rfl, qT 3 (Or.inr ⟨cr, Or.inl ⟨fun z => gp z.2.2, rfl⟩⟩)⟩⟩⟩
  have ef : fn (y_b S) (qd_n (y_q S k)) = y_b S := by unfold fn; rw [gp, Nat.pow_one]
  rw [ef] at oI oc
  rw [oI.1]
  rintro M28 rfl M29 rfl
  have f2 : FrM M (x_si (x_si M m 25 (nI (m_n (K k)))) m 26 (x_i (x_si M m 25 (nI (m_n (K k)))) m 0)) m [25, 26] [] := (FrM.rf.sm (by decide)).sm (by decide)
  have o : ∀ k', k' ≠ 0 → k' ≤ 4 → x_i (x_si (x_si M m 25 (nI (m_n (K k)))) m 26 (x_i (x_si M m 25 (nI (m_n (K k)))) m 0)) (m + k') = x_i M (m + k') := fun k' h1 h2 => f2.i h1 (by simp)
  refine ur_bSought d (b := y_b S) (f2.S hS) (by omega) (by omega) (by rw [f2.fm (by decide)]; exact g0) (show k < 10 by omega) (oI.fr f2 (by simp)) oc o40 ok1 (by rw [xi_nk (by omega), xi_eq]) (by rw [xi_eq, xi_nk (by omega)]; exact g0) (by rw [f2.fm (by decide)]; exact g1) cr (fun M2 mc f hc h60 hN e5 o5 => gT ⟨cr, ⟨(ask_r hW hQs hk).1.mp k1, (ask_r hW hQs hk).2.mp k2, gp⟩, trivial⟩ M2 mc ⟨(f2.wk (by decide) (by decide)).tr f (by decide) (by decide), hN.pre o, fun _ => e5, fun r hr => ?_⟩ h60 (fun β' hβ' => ?_))
  · rw [o5 r hr, f2.i (by omega) (by decide)]
  · refine Can.congr hc (fun u hu => ?_)
    exact (oc.2.2.1 u hu).symm.trans (hβ'.2.2.1 u hu)
end RPairsHead
