/-! ===== both alike: what only reads ===== -/
section OpRead
variable {G : GG} {M M' : Mem} {e m : Nat} {S : Sg} {R K R' K' : Nat → Mc} {Q : Option Value → Mem → Prop}
theorem LeI.meq {o mv mk f : Nat} {x x' : Mc} (h : LeI M o mv mk (m_n x) f (m_s x) (m_k x)) (g : meq f x x') : LeI M o mv mk (m_n x') f (m_s x') (m_k x') := by
  obtain ⟨h1, h2, h3, h4⟩ := h
  obtain ⟨g1, g2⟩ := g
  refine ⟨by rw [← g1]; exact h1, h2, fun i hi d hd => ?_, fun i hi => ?_⟩
  · rw [h3 i (by omega) d hd, (g2 i (by omega)).2 d hd]
  · rw [h4 i (by omega), (g2 i (by omega)).1]
theorem CoAll.meq (h : CoAll M e S R K) (hE : MaE S R K R' K') : CoAll M e S R' K' := by
  obtain ⟨a1, a2, a3, a4, a5, a6, a7⟩ := h
  refine ⟨a1, a2, a3, a4, fun i hi => ?_, fun k hk => ?_, a7⟩
  · obtain ⟨b1, b2, b3⟩ := a5 i hi
    exact ⟨b1, b2, LeI.meq b3 (hE.2.1 i hi)⟩
  · obtain ⟨b1, b2, b3, b4, b5⟩ := a6 k hk
    exact ⟨b1, b2, b3, b4, fun z1 z2 => LeI.meq (b5 z1 z2) (hE.2.2 k hk z1 z2)⟩
theorem MaE.rf : MaE S R K R K := ⟨fun _ => rfl, fun _ _ => meq.rf, fun _ _ _ _ => meq.rf⟩
theorem CRel.one (h : CRel M e m) : e + 615 < m ∧ ∃ S R K, SgW S ∧ MaW S R K ∧ CoAll M e S R K ∧ ReAll M m S R K := by
  obtain ⟨hem, S, R, K, R', K', hW, hM, hM', hE, hC, hR⟩ := h
  exact ⟨hem, S, R', K', hW, hM', hC.meq hE, hR⟩
theorem CRel.mk1 (hem : e + 615 < m) (hW : SgW S) (hM : MaW S R K) (hC : CoAll M e S R K) (hR : ReAll M m S R K) : CRel M e m := ⟨hem, S, R, K, R, K, hW, hM, hM, MaE.rf, hC, hR⟩
theorem nI_same {x : Int32} {k k' : Nat} (h : x = nI k) (h' : x = nI k') (hk : k < 2 ^ 20) (hk' : k' < 2 ^ 20) : k = k' := (nI_eq (by omega) (by omega)).mp (h.symm.trans h')
theorem ask_c (hW : SgW S) (hQ : CoQ M e S K) {k : Nat} (hk : k < y_qc S) : (x_i M (e + 540 + 8 * k) 1 = 0 ↔ qd_f (y_q S k) = 0) ∧ (x_i M (e + 540 + 8 * k) 3 = -1 ↔ qd_s (y_q S k) = none) := by
  obtain ⟨h1, h2, h3, h4, h5⟩ := hQ k hk
  obtain ⟨w1, w2, w3, w4⟩ := hW.2.2.2.2.2.2.2.1 k hk
  rw [h1, h3, nbI_r (fun c hc => by have := w1 c hc; omega), show (0 : Int32) = nI 0 from rfl, nI_eq (by omega) (by omega)]
  exact ⟨Iff.rfl, Iff.rfl⟩
theorem ask_r (hW : SgW S) (hQ : ReQs M m S K) {k : Nat} (hk : k < y_qc S) : (x_i M (m + 6) k = 0 ↔ qd_f (y_q S k) = 0) ∧ (x_i M (m + 8) k = -1 ↔ qd_s (y_q S k) = none) := by
  obtain ⟨h1, h2, h3, h4, h5⟩ := hQ k hk
  obtain ⟨w1, w2, w3, w4⟩ := hW.2.2.2.2.2.2.2.1 k hk
  rw [h1, h3, nbI_r (fun c hc => by have := w1 c hc; omega), show (0 : Int32) = nI 0 from rfl, nI_eq (by omega) (by omega)]
  exact ⟨Iff.rfl, Iff.rfl⟩
theorem ok_c (hW : SgW S) (hM : MaW S R K) (hQ : CoQ M e S K) {k : Nat} (hk : k < y_qc S) (g1 : x_i M (e + 540 + 8 * k) 1 = 0) (g2 : x_i M (e + 540 + 8 * k) 3 = -1) : LeI M (e + 540 + 8 * k + 1) (e + 540 + 8 * k + 2) (e + 540 + 8 * k + 3) (m_n (K k)) (fn (y_b S) (qd_n (y_q S k))) (m_s (K k)) (m_k (K k)) ∧ QueG (y_b S) (qd_n (y_q S k)) (K k) ∧ x_i M (e + 540 + 8 * k) 4 = nI (qd_n (y_q S k)) ∧ qd_n (y_q S k) < 256 ∧ pc (qd_n (y_q S k)) ≤ 3 ∧ fn (y_b S) (qd_n (y_q S k)) ≤ 27 := by
  have z1 := (ask_c hW hQ hk).1.mp g1
  have z2 := (ask_c hW hQ hk).2.mp g2
  obtain ⟨h1, h2, h3, h4, h5⟩ := hQ k hk
  obtain ⟨w1, w2, w3, w4⟩ := hW.2.2.2.2.2.2.2.1 k hk
  exact ⟨h5 z1 z2, hM.2 k hk z1 z2, (h4 z1).1, (w4 z1).1, (w4 z1).2.1, fn_27 hW.1 (w4 z1).2.1⟩
theorem ok_r (hW : SgW S) (hM : MaW S R K) (hQ : ReQs M m S K) {k : Nat} (hk : k < y_qc S) (g1 : x_i M (m + 6) k = 0) (g2 : x_i M (m + 8) k = -1) : ReQ M m k (fn (y_b S) (qd_n (y_q S k))) (K k) ∧ QueG (y_b S) (qd_n (y_q S k)) (K k) ∧ x_i M (m + 9) k = nI (qd_n (y_q S k)) ∧ qd_n (y_q S k) < 256 ∧ pc (qd_n (y_q S k)) ≤ 3 ∧ fn (y_b S) (qd_n (y_q S k)) ≤ 27 := by
  have z1 := (ask_r hW hQ hk).1.mp g1
  have z2 := (ask_r hW hQ hk).2.mp g2
  obtain ⟨h1, h2, h3, h4, h5⟩ := hQ k hk
  obtain ⟨w1, w2, w3, w4⟩ := hW.2.2.2.2.2.2.2.1 k hk
  exact ⟨h5 z1 z2, hM.2 k hk z1 z2, (h4 z1).1, (w4 z1).1, (w4 z1).2.1, fn_27 hW.1 (w4 z1).2.1⟩
theorem ReAll.fM {F A : List Nat} (h : ReAll M m S R K) (g : FrM M M' m F A) (hF : ∀ o ∈ F, o ∉ [0, 1, 7, 18, 22, 24]) (hA : ∀ o ∈ A, 20 ≤ o) : ReAll M' m S R K := by
  obtain ⟨a1, ⟨b0, b1, b7, b18, b22, b24⟩, a3, a4, a5, a6, a7⟩ := h
  have f : ∀ k, k ∈ [0, 1, 7, 18, 22, 24] → x_i M' m k = x_i M m k := fun k hk => g.fm (fun c => hF k c hk)
  have o : ∀ x, x ≠ 0 → x < 20 → x_i M' (m + x) = x_i M (m + x) := fun x h0 hx => g.i h0 (fun c => by have := hA x c; omega)
  refine ⟨g.S a1, ⟨by rw [f 0 (by simp)]; exact b0, by rw [f 1 (by simp)]; exact b1, by rw [f 7 (by simp)]; exact b7, by rw [f 18 (by simp)]; exact b18, by rw [f 22 (by simp)]; exact b22, by rw [f 24 (by simp)]; exact b24⟩, fun i hi => ?_, fun s hs => ?_, fun i hi => ?_, fun k hk => ?_, fun j hj => ?_⟩
  · rw [o 15 (by omega) (by omega)]; exact a3 i hi
  · rw [o 16 (by omega) (by omega), o 17 (by omega) (by omega), o 18 (by omega) (by omega)]; exact a4 s hs
  · have := a5 i hi
    unfold ReR at this ⊢
    rw [o 1 (by omega) (by omega), o 2 (by omega) (by omega), o 3 (by omega) (by omega), o 4 (by omega) (by omega), o 5 (by omega) (by omega)]; exact this
  · have := a6 k hk
    unfold ReK ReQ at this ⊢
    rw [o 6 (by omega) (by omega), o 7 (by omega) (by omega), o 8 (by omega) (by omega), o 9 (by omega) (by omega), o 10 (by omega) (by omega), o 11 (by omega) (by omega), o 12 (by omega) (by omega), o 13 (by omega) (by omega), o 14 (by omega) (by omega)]; exact this
  · rw [o 19 (by omega) (by omega)]; exact a7 j hj
/-- the reference has written its scratch only -/
theorem CRel.fM {F A : List Nat} (h : CRel M e m) (g : FrM M M' m F A) (hF : ∀ o ∈ F, o ∉ [0, 1, 7, 18, 22, 24]) (hA : ∀ o ∈ A, 20 ≤ o) : CRel M' e m := by
  obtain ⟨hem, S, R, K, R', K', hW, hM, hM', hE, hC, hR⟩ := h
  exact ⟨hem, S, R, K, R', K', hW, hM, hM', hE, hC.fM hW hem g, hR.fM g hF hA⟩
/-- the class has written cells of its scratch only -/
theorem CRel.fP {P : Nat → Prop} (h : CRel M e m) (g : FrP M M' P) (hP : ∀ q, P q → e + 14 ≤ q ∧ q ≤ e + 533) : CRel M' e m := by
  obtain ⟨hem, S, R, K, R', K', hW, hM, hM', hE, hC, hR⟩ := h
  have o : ∀ q, q < e + 14 ∨ e + 533 < q → x_i M' q = x_i M q := fun q hq => g.i (fun c => by have := hP q c; omega)
  refine ⟨hem, S, R, K, R', K', hW, hM, hM', hE, ?_, hR.up g.h (by rw [g.r]) (fun q hq => o q (by omega))⟩
  obtain ⟨a1, a2, a3, a4, a5, a6, a7⟩ := hC
  refine ⟨a1.eq g.h g.r, ?_, ?_, ?_, fun i hi => ?_, fun k hk => ?_, ?_⟩
  · unfold CoB at a2 ⊢; rw [o e (by omega)]; exact a2
  · unfold CoT at a3 ⊢; rw [o (e + 3) (by omega)]; exact a3
  · refine ⟨fun s hs => ?_, fun i hi => by rw [o (e + 13) (by omega)]; exact a4.2 i hi⟩
    rw [o (e + 11) (by omega), o (e + 12) (by omega), o (e + 5 + s) (by omega)]
    exact a4.1 s hs
  · have := a5 i hi
    unfold RowI LeI at this ⊢
    rw [o (e + 536 + 8 * i) (by omega), o (e + 536 + 8 * i + 1) (by omega), o (e + 536 + 8 * i + 2) (by omega), o (e + 536 + 8 * i + 3) (by omega)]
    exact this
  · have := a6 k hk
    unfold CoK LeI at this ⊢
    rw [o (e + 540 + 8 * k) (by omega), o (e + 540 + 8 * k + 1) (by omega), o (e + 540 + 8 * k + 2) (by omega), o (e + 540 + 8 * k + 3) (by omega)]
    exact this
  · unfold CoA at a7 ⊢; rw [o (e + 534) (by omega), o (e + 535) (by omega)]; exact a7
theorem op_kind (d : Nat) {x : Int32} : COp G (d + 3) e m mX11_kind mX12_kind [.int x] := by
  intro M hC0
  obtain ⟨hem, S, R, K, hW, hM, ⟨cS, cB, cT, cH, cR, cQ, cA⟩, ⟨rS, rB, rT, rH, rR, rQ, rA⟩⟩ := hC0.one
  obtain ⟨a1, a2, a3, a4, a5, a6, a7, a8, a9, a10, a11, a12, b1, b2, -⟩ := cS
  have hrc := hW.2.2.2.2.1
  refine w_kind (d + 1) a1 a2 b1 cB.2.1 hrc (fun h => ⟨_, rfl, ur_kind d rS rB.2.1 hrc (fun _ => ⟨rfl, hC0⟩) (fun k hk ek => absurd ek (h k hk))⟩) (fun k hk ek => ⟨_, rfl, ur_kind d rS rB.2.1 hrc (fun h => absurd ek (h k hk)) (fun k' hk' ek' => ?_)⟩)
  have := nI_same ek ek' (by omega) (by omega)
  subst this
  exact ⟨by rw [(cR k hk).1, (rR k hk).1], hC0⟩
theorem op_width (d : Nat) {x : Int32} : COp G (d + 3) e m mX11_width mX12_width [.int x] := by
  intro M hC0
  obtain ⟨hem, S, R, K, hW, hM, ⟨cS, cB, cT, cH, cR, cQ, cA⟩, ⟨rS, rB, rT, rH, rR, rQ, rA⟩⟩ := hC0.one
  obtain ⟨a1, a2, a3, a4, a5, a6, a7, a8, a9, a10, a11, a12, b1, b2, -⟩ := cS
  have hrc := hW.2.2.2.2.1
  refine w_width (b := y_b S) (d + 1) a1 a2 b1 cB.2.1 hrc (fun i hi => (cR i hi).2.2) (fun h => ⟨_, rfl, ur_width d rS rB.2.1 hrc (fun _ => ⟨rfl, hC0⟩) (fun k hk ek => absurd ek (h k hk))⟩) (fun k hk ek => ⟨_, rfl, ur_width d rS rB.2.1 hrc (fun h => absurd ek (h k hk)) (fun k' hk' ek' => ?_)⟩)
  have := nI_same ek ek' (by omega) (by omega)
  subst this
  exact ⟨by rw [(rR k hk).2.2.1], hC0⟩
theorem op_takes (d : Nat) {x y : Int32} : COp G (d + 3) e m mX11_takes mX12_takes [.int x, .int y] := by
  intro M hC0
  obtain ⟨hem, S, R, K, hW, hM, ⟨cS, cB, cT, cH, cR, cQ, cA⟩, ⟨rS, rB, rT, rH, rR, rQ, rA⟩⟩ := hC0.one
  obtain ⟨a1, a2, a3, a4, a5, a6, a7, a8, a9, a10, a11, a12, b1, b2, -⟩ := cS
  have hqc := hW.2.2.2.2.2.2.1
  have t1 : ∀ k, k < y_qc S → (x_i M (e + 540 + 8 * k) 1 = 0 ↔ x_i M (m + 6) k = 0) := fun k hk => (ask_c hW cQ hk).1.trans (ask_r hW rQ hk).1.symm
  have t2 : ∀ k, k < y_qc S → (x_i M (e + 540 + 8 * k) 3 = -1 ↔ x_i M (m + 8) k = -1) := fun k hk => (ask_c hW cQ hk).2.trans (ask_r hW rQ hk).2.symm
  have okr : ∀ k, k < y_qc S → x_i M (m + 6) k = 0 → x_i M (m + 8) k = -1 → ReQ M m k (fn (y_b S) (qd_n (y_q S k))) (K k) ∧ m_n (K k) ≤ 40 ∧ ∀ i, i < m_n (K k) → m_k (K k) i ≤ 1 := fun k hk g1 g2 => ⟨(ok_r hW hM rQ hk g1 g2).1, (ok_r hW hM rQ hk g1 g2).2.1.2.1, (ok_r hW hM rQ hk g1 g2).2.1.2.2.1⟩
  refine w_takes d a1 a3 b2 cB.2.2.1 hqc (ff := fun k => fn (y_b S) (qd_n (y_q S k))) (mq := K) (fun k hk g1 g2 => ⟨(ok_c hW hM cQ hk g1 g2).1, (ok_c hW hM cQ hk g1 g2).2.1.2.1⟩) (fun h => ⟨_, rfl, ur_takes d rS rB.2.2.1 hqc okr (fun _ => ⟨rfl, hC0⟩) (fun k hk ek g1 g2 i hi ei => absurd ei (h k hk ek ((t1 k hk).mpr g1) ((t2 k hk).mpr g2) i hi))⟩) (fun k hk ek g1 g2 i hi ei => ⟨_, rfl, ur_takes d rS rB.2.2.1 hqc okr (fun h => absurd ei (h k hk ek ((t1 k hk).mp g1) ((t2 k hk).mp g2) i hi)) (fun k' hk' ek' g1' g2' i' hi' ei' => ?_)⟩)
  have := nI_same ek ek' (by omega) (by omega)
  subst this
  have h40 := (okr k hk g1' g2').2.1
  have := nI_same ei ei' (by omega) (by omega)
  subst this
  exact ⟨rfl, hC0⟩
theorem op_step (d : Nat) {x y z : Int32} : COp G (d + 3) e m mX11_step mX12_step [.int x, .int y, .int z] := by
  intro M hC0
  obtain ⟨hem, S, R, K, hW, hM, ⟨cS, cB, cT, cH, cR, cQ, cA⟩, ⟨rS, rB, rT, rH, rR, rQ, rA⟩⟩ := hC0.one
  obtain ⟨a1, a2, a3, a4, a5, a6, a7, a8, a9, a10, a11, a12, b1, b2, -⟩ := cS
  have hqc := hW.2.2.2.2.2.2.1
  have t1 : ∀ k, k < y_qc S → (x_i M (e + 540 + 8 * k) 1 = 0 ↔ x_i M (m + 6) k = 0) := fun k hk => (ask_c hW cQ hk).1.trans (ask_r hW rQ hk).1.symm
  have t2 : ∀ k, k < y_qc S → (x_i M (e + 540 + 8 * k) 3 = -1 ↔ x_i M (m + 8) k = -1) := fun k hk => (ask_c hW cQ hk).2.trans (ask_r hW rQ hk).2.symm
  have okr : ∀ k, k < y_qc S → x_i M (m + 6) k = 0 → x_i M (m + 8) k = -1 → x_i M (m + 9) k = nI (qd_n (y_q S k)) ∧ qd_n (y_q S k) < 256 ∧ fn (y_b S) (qd_n (y_q S k)) ≤ 27 ∧ ReQ M m k (fn (y_b S) (qd_n (y_q S k))) (K k) ∧ m_n (K k) ≤ 40 := fun k hk g1 g2 => by
    obtain ⟨o1, o2, o3, o4, o5, o6⟩ := ok_r hW hM rQ hk g1 g2
    exact ⟨o3, o4, o6, o1, o2.2.1⟩
  refine w_step d a1 a3 b2 cB.2.2.1 hqc (ff := fun k => fn (y_b S) (qd_n (y_q S k))) (mq := K) (fun k hk g1 g2 => ⟨(ok_c hW hM cQ hk g1 g2).1, (ok_c hW hM cQ hk g1 g2).2.1.2.1, (ok_c hW hM cQ hk g1 g2).2.2.2.2.2⟩) (fun h => ⟨_, rfl, ur_step (nf := fun k => qd_n (y_q S k)) d rS rB.1 rB.2.2.1 hqc okr (fun _ => ⟨rfl, hC0⟩) (fun k hk ek g1 g2 i hi ei g hg eg => ?_)⟩) (fun k hk ek g1 g2 i hi ei g hg eg => ⟨_, rfl, ur_step (nf := fun k => qd_n (y_q S k)) d rS rB.1 rB.2.2.1 hqc okr (fun h => ?_) (fun k' hk' ek' g1' g2' i' hi' ei' g' hg' eg' => ?_)⟩)
  · rcases h k hk ek ((t1 k hk).mpr g1) ((t2 k hk).mpr g2) with c | c
    · exact absurd ei (c i hi)
    · exact absurd eg (c g hg)
  · rcases h k hk ek ((t1 k hk).mp g1) ((t2 k hk).mp g2) with c | c
    · exact absurd ei (c i hi)
    · exact absurd eg (c g hg)
  have := nI_same ek ek' (by omega) (by omega)
  subst this
  have h40 := (okr k hk g1' g2').2.2.2.2
  have h27 := (okr k hk g1' g2').2.2.1
  have := nI_same ei ei' (by omega) (by omega)
  subst this
  have := nI_same eg eg' (by omega) (by omega)
  subst this
  exact ⟨rfl, hC0⟩
theorem op_letter (d : Nat) {x : Int32} {a : Int64} : COp G (d + 4) e m mX11_letter mX12_letter [.int x, .long a] := by
  intro M hC0
  obtain ⟨hem, S, R, K, hW, hM, ⟨cS, cB, cT, cH, cR, cQ, cA⟩, ⟨rS, rB, rT, rH, rR, rQ, rA⟩⟩ := hC0.one
  obtain ⟨a1, a2, a3, a4, a5, a6, a7, a8, a9, a10, a11, a12, b1, b2, -⟩ := cS
  have hrc := hW.2.2.2.2.1
  have hb := hW.1
  refine w_letter (b := y_b S) (R := R) d a1 hb a2 b1 cB.1 cB.2.1 hrc (fun i hi => ⟨hM.1 i hi, (cR i hi).2.2⟩) (fun h => ⟨_, rfl, ur_letter (b := y_b S) (R := R) (d + 1) rS (by omega) (by omega) rB.1 rB.2.1 hrc (fun i hi => ⟨hM.1 i hi, (rR i hi).2.2⟩) (fun _ => ⟨rfl, hC0⟩) (fun k hk ek v hv ev => ?_)⟩) (fun k hk ek v hv ev => ⟨_, rfl, ur_letter (b := y_b S) (R := R) (d + 1) rS (by omega) (by omega) rB.1 rB.2.1 hrc (fun i hi => ⟨hM.1 i hi, (rR i hi).2.2⟩) (fun h => ?_) (fun k' hk' ek' v' hv' ev' M1 g => ?_)⟩)
  · rcases h with c | c
    · exact absurd ek (c k hk)
    · exact absurd ev (c v hv)
  · rcases h with c | c
    · exact absurd ek (c k hk)
    · exact absurd ev (c v hv)
  have := nI_same ek ek' (by omega) (by omega)
  subst this
  have : v = v' := (pk_lEQ (by omega) (by omega)).mp (ev.symm.trans ev')
  subst this
  exact ⟨rfl, hC0.fM g (by simp) (by simp)⟩
theorem op_differ (d : Nat) {x y : Int32} : COp G (d + 5) e m mX11_differ mX12_differ [.int x, .int y] := by
  intro M hC0
  obtain ⟨hem, S, R, K, hW, hM, ⟨cS, cB, cT, cH, cR, cQ, cA⟩, ⟨rS, rB, rT, rH, rR, rQ, rA⟩⟩ := hC0.one
  obtain ⟨a1, a2, a3, a4, a5, a6, a7, a8, a9, a10, a11, a12, b1, b2, b3, b4, b5, b6, b7, b8, c1, c2, c3, c4, c5, c6, c7, d1, d2, d3⟩ := cS
  have hrc := hW.2.2.2.2.1
  have hb := hW.1
  refine w_differ (b := y_b S) (R := R) (d + 1) a1 (by omega) (by omega) a2 a11 c7 (by omega) b1 cB.1 cB.2.1 hrc (fun i hi => ⟨hM.1 i hi, (cR i hi).2.2⟩) (fun h => ⟨_, rfl, ur_differ (b := y_b S) (R := R) d rS (by omega) (by omega) rB.1 rB.2.1 hrc (fun i hi => ⟨hM.1 i hi, (rR i hi).2.2⟩) (fun _ => ⟨rfl, hC0⟩) (fun i hi ei j hj ej => ?_)⟩) (fun i hi ei j hj ej M1 res g hres => ?_)
  · rcases h with c | c
    · exact absurd ei (c i hi)
    · exact absurd ej (c j hj)
  have hC1 : CRel M1 e m := hC0.fP (g.P (P := fun q => e + 14 ≤ q ∧ q ≤ e + 533) (fun q hq => by simp at hq; omega)) (fun q hq => hq)
  have o : ∀ q, m ≤ q → x_i M1 q = x_i M q := fun q hq => g.i (by simp; omega)
  have hR1 : ReAll M1 m S R K := ReAll.up ⟨rS, rB, rT, rH, rR, rQ, rA⟩ g.h (by rw [g.r]) o
  obtain ⟨rS, rB, rT, rH, rR, rQ, rA⟩ := hR1
  refine ⟨_, rfl, ur_differ (b := y_b S) (R := R) d rS (by omega) (by omega) rB.1 rB.2.1 hrc (fun i hi => ⟨hM.1 i hi, (rR i hi).2.2⟩) (fun h => ?_) (fun i' hi' ei' j' hj' ej' M2 res' g2 hres' => ?_)⟩
  · rcases h with c | c
    · exact absurd ei (c i hi)
    · exact absurd ej (c j hj)
  have := nI_same ei ei' (by omega) (by omega)
  subst this
  have := nI_same ej ej' (by omega) (by omega)
  subst this
  rw [hres'.one hres]
  exact ⟨rfl, hC1.fM g2 (by decide) (by decide)⟩
theorem op_status (d : Nat) : COp G (d + 1) e m mX11_status mX12_status [] := by
  intro M hC0
  obtain ⟨hem, S, R, K, hW, hM, ⟨cS, cB, cT, cH, cR, cQ, cA⟩, ⟨rS, rB, rT, rH, rR, rQ, rA⟩⟩ := hC0.one
  exact eX11_status e ⟨cS.1, _, rfl, eX12_status m ⟨rS.1, by rw [rB.2.2.2.2.1, cB.2.2.2.2], hC0⟩⟩
theorem op_count (d : Nat) {x : Int32} : COp G (d + 1) e m mX11_count mX12_count [.int x] := by
  intro M hC0
  obtain ⟨hem, S, R, K, hW, hM, ⟨cS, cB, cT, cH, cR, cQ, cA⟩, ⟨rS, rB, rT, rH, rR, rQ, rA⟩⟩ := hC0.one
  obtain ⟨a1, a2, a3, a4, a5, a6, a7, a8, a9, a10, a11, a12, b1, b2, b3, b4, b5, b6, b7, b8, c1, c2, c3, c4, c5, c6, c7, d1, d2, d3⟩ := cS
  obtain ⟨f11, f12, f13, f14, f15⟩ := cB
  obtain ⟨g0, g1, g7, g18, g22, g24⟩ := rB
  refine eX11_count e x ⟨fun h => ⟨a1, _, rfl, ?_⟩, fun h => ⟨a1, _, rfl, ?_⟩, fun h => ⟨a1, _, rfl, ?_⟩, fun h => ⟨a1, _, rfl, ?_⟩, fun h => ⟨a1, _, a12, d1, _, rfl, ?_⟩, fun h => ⟨_, rfl, ?_⟩⟩
  · subst h
    exact eX12_count m _ ⟨fun c => absurd rfl c, fun _ => ⟨rS.1, by rw [g1, f12], hC0⟩⟩
  · subst h
    exact eX12_count m _ ⟨fun _ => ⟨fun c => absurd rfl c, fun _ => ⟨rS.1, by rw [g7, f13], hC0⟩⟩, fun c => absurd c (by decide)⟩
  · subst h
    exact eX12_count m _ ⟨fun _ => ⟨fun _ => ⟨fun c => absurd rfl c, fun _ => ⟨rS.1, by rw [g18, f14], hC0⟩⟩, fun c => absurd c (by decide)⟩, fun c => absurd c (by decide)⟩
  · subst h
    exact eX12_count m _ ⟨fun _ => ⟨fun _ => ⟨fun _ => ⟨fun c => absurd rfl c, fun _ => ⟨rS.1, by rw [g0, f11], hC0⟩⟩, fun c => absurd c (by decide)⟩, fun c => absurd c (by decide)⟩, fun c => absurd c (by decide)⟩
  · subst h
    exact eX12_count m _ ⟨fun _ => ⟨fun _ => ⟨fun _ => ⟨fun _ => ⟨fun c => absurd rfl c, fun _ => ⟨rS.1, by rw [g24, cA.1], hC0⟩⟩, fun c => absurd c (by decide)⟩, fun c => absurd c (by decide)⟩, fun c => absurd c (by decide)⟩, fun c => absurd c (by decide)⟩
  · obtain ⟨n0, n1, n2, n3, n4⟩ := h
    exact eX12_count m _ ⟨fun _ => ⟨fun _ => ⟨fun _ => ⟨fun _ => ⟨fun _ => ⟨rfl, hC0⟩, fun c => absurd c n4⟩, fun c => absurd c n3⟩, fun c => absurd c n2⟩, fun c => absurd c n1⟩, fun c => absurd c n0⟩
theorem op_trace (d : Nat) {x : Int32} : COp G (d + 2) e m mX11_trace mX12_trace [.int x] := by
  intro M hC0
  obtain ⟨hem, S, R, K, hW, hM, ⟨cS, cB, cT, cH, cR, cQ, cA⟩, ⟨rS, rB, rT, rH, rR, rQ, rA⟩⟩ := hC0.one
  obtain ⟨a1, a2, a3, a4, a5, a6, a7, a8, a9, a10, a11, a12, b1, b2, b3, b4, b5, b6, b7, b8, c1, c2, c3, c4, c5, c6, c7, d1, d2, d3⟩ := cS
  have hl : (y_tr S).length ≤ 50 := hW.2.2.2.2.2.2.2.2
  have h24 := rB.2.2.2.2.2
  have ref : ∀ Q : Option Value → Mem → Prop, ((∀ k, k < (y_tr S).length → x ≠ nI k) → Q (some (.int (-1))) M) → (∀ k, k < (y_tr S).length → x = nI k → Q (some (.int ((y_tr S).getD k 0))) M) → Call G (d + 2) 0 0 mX12_trace [.ref m, .int x] M Q := fun Q hQ0 hQ1 => by
    have hin : ∀ k, k < (y_tr S).length → x = nI k → (x_h M m).1 = 28 ∧ ∃ b8, x_r M m 23 = some b8 ∧ (x_h M b8).1 = 1 ∧ vp_in x (x_h M b8).2 ∧ Q (some (.int (x_i M b8 x.toNatClampNeg))) M := fun k hk ek => by
      refine ⟨rS.1, m + 19, rS.r19, by rw [rS.h19], by rw [ek, rS.h19]; exact vp_in_nI (show k < 50 by omega) (by omega), ?_⟩
      have := hQ1 k hk ek
      rw [ek, nI_clamp (by omega), rA k hk]
      exact this
    refine eX12_trace m x ⟨rS.1, fun c => ?_, fun c => ?_⟩
    · rw [h24, show (50 : Int32) = nI 50 from rfl, nI_leI (by omega) (by omega)] at c
      have e50 : (y_tr S).length = 50 := by omega
      show Call G (d + 1) 0 0 mX12_in [.int x, .int 0, .int (nI 50 - 1)] M _
      exact ur_in0 d (by omega) (fun h => ⟨0, rfl, fun _ => hQ0 (fun k hk => h k (by omega)), fun c => absurd rfl c⟩) (fun k hk ek => ⟨1, rfl, fun c => absurd c (by decide), fun _ => hin k (by omega) ek⟩)
    · rw [h24]
      exact ur_in0 d (by omega) (fun h => ⟨0, rfl, fun _ => hQ0 (fun k hk => h k (by omega)), fun c => absurd rfl c⟩) (fun k hk ek => ⟨1, rfl, fun c => absurd c (by decide), fun _ => hin k (by omega) ek⟩)
  refine eX11_trace e x ⟨a1, e + 534, a12, d1, ?_⟩
  rw [cA.1]
  refine w_in0 d (by omega) (fun h => ⟨0, rfl, fun _ => ⟨_, rfl, ref _ (fun _ => ⟨rfl, hC0⟩) (fun k hk ek => absurd ek (h k hk))⟩, fun c => absurd rfl c⟩) (fun k hk ek => ⟨1, rfl, fun c => absurd c (by decide), fun _ => ⟨a1, e + 534, a12, d1, e + 535, d2, by rw [d3], by rw [ek, d3]; exact vp_in_nI (show k < 50 by omega) (by omega), _, rfl, ref _ (fun h => absurd ek (h k hk)) (fun k' hk' ek' => ?_)⟩⟩)
  have := nI_same ek ek' (by omega) (by omega)
  subst this
  rw [ek, nI_clamp (by omega), cA.2 k hk]
  exact ⟨rfl, hC0⟩
end OpRead
