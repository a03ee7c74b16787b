/-! ===== both alike: machine, grown, ring, pair, sought ===== -/
section OpRows
variable {G : GG} {M M' : Mem} {e m b : Nat} {S S' : Sg} {R K : Nat → Mc} {Q : Option Value → Mem → Prop}
theorem CRel.refuse {v : Int32} (h : CRel M e m) : CRel (x_si (x_si M e 15 v) m 22 v) e m := h.st2
theorem dl_z0 {δ : Nat → Nat → Nat} {q : Nat} (h : δ q 0 = q) (u : List Nat) : dl δ q (0 :: u) = dl δ q u := by
  show dl δ (δ q 0) u = _
  rw [h]
theorem dl_lt {δ : Nat → Nat → Nat} {n f : Nat} (h : ∀ q, q < n → ∀ g, g < f → δ q g < n) : ∀ (u : List Nat) (q : Nat), wd f u → q < n → dl δ q u < n
  | [], _, _, hq => hq
  | g :: u, q, hu, hq => dl_lt h u (δ q g) (fun d hd => hu d (List.mem_cons_of_mem _ hd)) (h q hq g (hu g List.mem_cons_self))
theorem maB_G {a l n : Nat} {mc : Mc} (hb : y_b S = 2 ∨ y_b S = 3) (hn : 0 < n) (h1 : ∀ t, t < n * y_b S → maF S a t < n) (h2 : ∀ t, t < n → maF S l t < 8) (h60 : m_n mc ≤ 60) (hc : mcan (y_b S) mc (maB S a l n)) : RowG (y_b S) mc := by
  refine RowG.of (by omega) hc h60 (fun u hu => ?_) (fun u _ => ?_)
  · have hl := dl_lt (δ := mcD n (y_b S) (maF S a)) (n := n + 1) (f := y_b S) (fun q hq g hg => ?_) u n hu (by omega)
    · show maF S l (if dl (mcD n (y_b S) (maF S a)) n u = n then 0 else dl (mcD n (y_b S) (maF S a)) n u) < 8
      split
      · exact h2 0 hn
      · exact h2 _ (by omega)
    · show (if q = n ∧ g = 0 then n else maF S a ((if q = n then 0 else q) * y_b S + g)) < n + 1
      split
      · omega
      · have hx : (if q = n then 0 else q) < n := by split <;> omega
        generalize (if q = n then 0 else q) = x at hx
        have hm : (x + 1) * y_b S ≤ n * y_b S := Nat.mul_le_mul_right _ hx
        rw [Nat.succ_mul] at hm
        have := h1 (x * y_b S + g) (by omega)
        omega
  · show mcM n (maF S l) (dl _ n (0 :: u)) = mcM n (maF S l) (dl _ n u)
    rw [dl_z0 (show mcD n (y_b S) (maF S a) n 0 = n from if_pos ⟨rfl, rfl⟩)]
theorem grB_G {a n : Nat} {mc : Mc} (hb : y_b S = 2 ∨ y_b S = 3) (hn : 0 < n) (hn8 : n ≤ 8) (h1 : ∀ t, t < n * y_b S → y_cf S a t < n) (h2 : y_cf S a 0 = 0) (h60 : m_n mc ≤ 60) (hc : mcan (y_b S) mc (grB S a)) : RowG (y_b S) mc := by
  refine RowG.of (by omega) hc h60 (fun u hu => ?_) (fun u _ => ?_)
  · have hl := dl_lt (δ := grD (y_b S) (y_cf S a)) (n := n) (f := y_b S) (fun q hq g hg => ?_) u 0 hu hn
    · show dl (grD (y_b S) (y_cf S a)) 0 u < 8
      omega
    · show y_cf S a (q * y_b S + g) < n
      have hm : (q + 1) * y_b S ≤ n * y_b S := Nat.mul_le_mul_right _ hq
      rw [Nat.succ_mul] at hm
      exact h1 _ (by omega)
  · exact dl_z0 (show y_cf S a (0 * y_b S + 0) = 0 by rw [Nat.zero_mul]; exact h2) u
theorem riB_G {a i l : Nat} {mc : Mc} (hb : y_b S = 2 ∨ y_b S = 3) (hl : 0 < l) (h1 : ∀ t, t < i + l → y_cf S a t < 8) (h60 : m_n mc ≤ 60) (hc : mcan (y_b S) mc (riB S a i l)) : RowG (y_b S) mc := by
  refine RowG.of (by omega) hc h60 (fun u hu => ?_) (fun u _ => ?_)
  · have hlt := dl_lt (δ := riD (y_b S) i l) (n := i + l) (f := y_b S) (fun q hq g hg => ?_) u 0 hu (by omega)
    · exact h1 _ hlt
    · show (if q * y_b S + g < i + l then q * y_b S + g else i + (q * y_b S + g - i) % l) < i + l
      split
      · assumption
      · have := Nat.mod_lt (q * y_b S + g - i) hl
        omega
  · show y_cf S a (dl _ 0 (0 :: u)) = y_cf S a (dl _ 0 u)
    rw [dl_z0 (show riD (y_b S) i l 0 0 = 0 by unfold riD; rw [Nat.zero_mul, if_pos (by omega)])]
theorem paB_G {i j w : Nat} {mc : Mc} (hb : y_b S = 2 ∨ y_b S = 3) (hw : w < 3) (hi : RowG (y_b S) (R i)) (hj : RowG (y_b S) (R j)) (h60 : m_n mc ≤ 60) (hc : mcan (y_b S) mc (paB R i j w)) : RowG (y_b S) mc := by
  obtain ⟨⟨βi, ci⟩, gi2, gi3, gi4⟩ := hi
  obtain ⟨⟨βj, cj⟩, gj2, gj3, gj4⟩ := hj
  refine RowG.of (by omega) hc h60 (fun u hu => ?_) (fun u _ => ?_)
  · have h1 : m_b (R i) u < 8 := gi3 _ (rn_lt ci.2.1 u 0 hu ci.1)
    have h2 : m_b (R j) u < 8 := gj3 _ (rn_lt cj.2.1 u 0 hu cj.1)
    show jn w (m_b (R i) u) (m_b (R j) u) < 8
    rcases (show w = 0 ∨ w = 1 ∨ w = 2 by omega) with rfl | rfl | rfl
    · show (if m_b (R i) u = m_b (R j) u then 1 else 0) < 8
      split <;> omega
    · show (m_b (R i) u + m_b (R j) u) % 8 < 8
      exact Nat.mod_lt _ (by omega)
    · show max (m_b (R i) u) (m_b (R j) u) < 8
      omega
  · show jn w (m_b (R i) (0 :: u)) (m_b (R j) (0 :: u)) = jn w (m_b (R i) u) (m_b (R j) u)
    rw [m_b0 gi4, m_b0 gj4]
theorem op_machine (d : Nat) {a l s n : Int32} : COp G (d + 6) e m mX11_machine mX12_machine [.int a, .int l, .int s, .int n] := by
  intro M hC0
  obtain ⟨hem, S, R, K, hW, hM, hCo, hRe⟩ := hC0.one
  obtain ⟨cS, cB, cT, cH, cR, cQ, cA⟩ := id hCo
  refine w_machine d cS hW cB cH (fun c hc => ⟨_, rfl, ?_⟩) (fun hg M1 mc hA h60 hcan => ⟨_, rfl, ?_⟩)
  · obtain ⟨rS, rB, rT, rH, rR, rQ, rA⟩ := hRe.lo (q := e) (k := 15) (v := c) (by omega)
    exact ur_machine (d + 1) rS hW rB rH (fun c' hc' => ⟨rfl, by rw [hc'.one hc]; exact hC0.st2⟩) (fun hg => (hc.no hg).elim)
  · obtain ⟨rS, rB, rT, rH, rR, rQ, rA⟩ := hRe.up hA.1 (by rw [hA.2.1]) (fun q hq => hA.2.2.1 q (by omega) (by have := hg.2.1; omega) (by have := hg.2.1; omega))
    refine ur_machine (d + 1) rS hW rB rH (fun c hc => (hc.no hg).elim) (fun hg2 M2 mc' hA2 h60' hcan' => ⟨rfl, ?_⟩)
    obtain ⟨q1, q2, -, -, q5, -⟩ := hg
    have hn : 0 < iN n := by have := q1.2.2.2; unfold iN; omega
    exact CRel.addR hem hW hM hCo hRe q2 (by omega) hA hA2 (maB_G hW.1 hn q5.1 q5.2 h60 hcan) (maB_G hW.1 hn q5.1 q5.2 h60' hcan') (mcan_one (by have := hW.1; omega) hcan hcan')
theorem op_grown (d : Nat) {a s n : Int32} : COp G (d + 6) e m mX11_grown mX12_grown [.int a, .int s, .int n] := by
  intro M hC0
  obtain ⟨hem, S, R, K, hW, hM, hCo, hRe⟩ := hC0.one
  obtain ⟨cS, cB, cT, cH, cR, cQ, cA⟩ := id hCo
  refine w_grown d cS hW cB cH (fun c hc => ⟨_, rfl, ?_⟩) (fun hg M1 mc hA h60 hcan => ⟨_, rfl, ?_⟩)
  · obtain ⟨rS, rB, rT, rH, rR, rQ, rA⟩ := hRe.lo (q := e) (k := 15) (v := c) (by omega)
    exact ur_grown (d + 1) rS hW rB rH (fun c' hc' => ⟨rfl, by rw [hc'.one hc]; exact hC0.st2⟩) (fun hg => (hc.no hg).elim)
  · obtain ⟨rS, rB, rT, rH, rR, rQ, rA⟩ := hRe.up hA.1 (by rw [hA.2.1]) (fun q hq => hA.2.2.1 q (by omega) (by have := hg.2.1; omega) (by have := hg.2.1; omega))
    refine ur_grown (d + 1) rS hW rB rH (fun c hc => (hc.no hg).elim) (fun hg2 M2 mc' hA2 h60' hcan' => ⟨rfl, ?_⟩)
    obtain ⟨q1, q2, -, -, -, q5, -⟩ := hg
    have hn : 0 < iN n := by have := q1.2.2; unfold iN; omega
    have hn8 : iN n ≤ 8 := by have := q1.2.2; unfold iN; omega
    exact CRel.addR hem hW hM hCo hRe q2 (by omega) hA hA2 (grB_G hW.1 hn hn8 q5.1 q5.2 h60 hcan) (grB_G hW.1 hn hn8 q5.1 q5.2 h60' hcan') (mcan_one (by have := hW.1; omega) hcan hcan')
theorem op_ring (d : Nat) {a s i l : Int32} : COp G (d + 6) e m mX11_ring mX12_ring [.int a, .int s, .int i, .int l] := by
  intro M hC0
  obtain ⟨hem, S, R, K, hW, hM, hCo, hRe⟩ := hC0.one
  obtain ⟨cS, cB, cT, cH, cR, cQ, cA⟩ := id hCo
  refine w_ring d cS hW cB cH (fun c hc => ⟨_, rfl, ?_⟩) (fun hg M1 mc hA h60 hcan => ⟨_, rfl, ?_⟩)
  · obtain ⟨rS, rB, rT, rH, rR, rQ, rA⟩ := hRe.lo (q := e) (k := 15) (v := c) (by omega)
    exact ur_ring (d + 1) rS hW rB rH (fun c' hc' => ⟨rfl, by rw [hc'.one hc]; exact hC0.st2⟩) (fun hg => (hc.no hg).elim)
  · obtain ⟨rS, rB, rT, rH, rR, rQ, rA⟩ := hRe.up hA.1 (by rw [hA.2.1]) (fun q hq => hA.2.2.1 q (by omega) (by have := hg.2.1; omega) (by have := hg.2.1; omega))
    refine ur_ring (d + 1) rS hW rB rH (fun c hc => (hc.no hg).elim) (fun hg2 M2 mc' hA2 h60' hcan' => ⟨rfl, ?_⟩)
    obtain ⟨q1, q2, -, -, -, q5, -⟩ := hg
    have hl : 0 < iN l := by have := q1.2.2.2; unfold iN; omega
    exact CRel.addR hem hW hM hCo hRe q2 (by omega) hA hA2 (riB_G hW.1 hl q5 h60 hcan) (riB_G hW.1 hl q5 h60' hcan') (mcan_one (by have := hW.1; omega) hcan hcan')
theorem op_pair (d : Nat) {i j w : Int32} : COp G (d + 7) e m mX11_pair mX12_pair [.int i, .int j, .int w] := by
  intro M hC0
  obtain ⟨hem, S, R, K, hW, hM, hCo, hRe⟩ := hC0.one
  obtain ⟨cS, cB, cT, cH, cR, cQ, cA⟩ := id hCo
  refine w_pair d cS hW hM cB cR (fun c hc M1 hA => ⟨_, rfl, ?_⟩) (fun hg M1 mc hA h60 hcan => ⟨_, rfl, ?_⟩)
  · have hr10 := hW.2.2.2.2.1
    have hC1 : CRel M1 e m := CRel.mk1 hem hW hM (hCo.scr hW hA) (hRe.up hA.1 (by rw [hA.2.1]) (fun q hq => hA.2.2 q (by omega) (by omega)))
    obtain ⟨rS, rB, rT, rH, rR, rQ, rA⟩ := (hRe.up hA.1 (by rw [hA.2.1]) (fun q hq => hA.2.2 q (by omega) (by omega)) : ReAll M1 m S R K).lo (q := e) (k := 15) (v := c) (by omega)
    refine ur_pair (d + 2) rS hW hM rB rR (fun c' hc' M2 f2 => ⟨rfl, ?_⟩) (fun hg => (hc.no hg).elim)
    rw [hc'.one hc]
    have hC2 : CRel (x_si M1 e 15 c) e m ∨ True := Or.inr trivial
    have hC3 := CRel.st2 (v := c) hC1
    have g3 := f2.wk (F := [25, 26, 29]) (A := [20, 21, 22, 23, 24, 25, 26, 27, 28, 29]) (by decide) (by decide)
    have cc := (hCo.scr hW hA).st (v := c) hW
    have rr := (ReAll.lo (q := e) (k := 15) (v := c) (hRe.up hA.1 (by rw [hA.2.1]) (fun q hq => hA.2.2 q (by omega) (by omega)) : ReAll M1 m S R K) (by omega))
    have cc2 : CoAll M2 e (nwS S c) R K := cc.fM hW hem f2
    have rr2 : ReAll M2 m S R K := rr.fM f2 (by decide) (by decide)
    exact CRel.mk1 (S := nwS S c) hem hW hM (cc2.hi hW (by omega)) (rr2.st (v := c))
  · obtain ⟨rS, rB, rT, rH, rR, rQ, rA⟩ := hRe.up hA.1 (by rw [hA.2.1]) (fun q hq => hA.2.2.1 q (by omega) (by have := hg.2.1; omega) (by have := hg.2.1; omega))
    refine ur_pair (d + 2) rS hW hM rB rR (fun c hc _ _ => (hc.no hg).elim) (fun hg2 M2 mc' hA2 h60' hcan' => ⟨rfl, ?_⟩)
    obtain ⟨q1, q2, -, -⟩ := hg
    have hr10 := hW.2.2.2.2.1
    have hi := hM.1 _ (q1.1.eq (by omega)).2
    have hj := hM.1 _ (q1.2.1.eq (by omega)).2
    have hw := (q1.2.2.eq (by omega)).2
    exact CRel.addR hem hW hM hCo hRe q2 (by omega) hA hA2 (paB_G hW.1 hw hi hj h60 hcan) (paB_G hW.1 hw hi hj h60' hcan') (mcan_one (by have := hW.1; omega) hcan hcan')
theorem op_sought (d : Nat) {x : Int32} : COp G (d + 5) e m mX11_sought mX12_sought [.int x] := by
  intro M hC0
  obtain ⟨hem, S, R, K, hW, hM, hCo, hRe⟩ := hC0.one
  obtain ⟨cS, cB, cT, cH, cR, cQ, cA⟩ := id hCo
  refine w_sought (d + 1) cS hW hM cB cQ (fun c hc => ⟨_, rfl, ?_⟩) (fun hg ex hx M1 hA => ⟨_, rfl, ?_⟩)
  · obtain ⟨rS, rB, rT, rH, rR, rQ, rA⟩ := hRe.lo (q := e) (k := 15) (v := c) (by omega)
    exact ur_sought d rS hW hM rB rQ (fun c' hc' => ⟨rfl, by rw [hc'.one hc]; exact hC0.st2⟩) (fun hg => (hc.no hg).elim)
  · obtain ⟨rS, rB, rT, rH, rR, rQ, rA⟩ := hRe.up hA.1 (by rw [hA.2.1]) (fun q hq => hA.2.2.1 q (by omega) (by have := hg.2.1; omega) (by have := hg.2.1; omega))
    refine ur_sought d rS hW hM rB rQ (fun c hc => (hc.no hg).elim) (fun hg2 ex2 hx2 M2 mc' hA2 h60' hcan' => ⟨rfl, ?_⟩)
    obtain ⟨q1, q2, q3, -⟩ := hg
    obtain ⟨⟨β, hcan⟩, k2, k3, k4⟩ := hM.2 _ hx q3.1 q3.2.1
    have ef : fn (y_b S) (qd_n (y_q S (iN x))) = y_b S := by unfold fn; rw [q3.2.2, Nat.pow_one]
    rw [ef] at hcan
    have hb0 : 0 < y_b S := by have := hW.1; omega
    have heq : meq (y_b S) (K (iN x)) mc' := mcan_one hb0 hcan (hcan' β hcan)
    refine CRel.addR hem hW hM hCo hRe q2 (by omega) hA hA2 ⟨⟨β, hcan⟩, by omega, fun i hi => by have := k3 i hi; omega, k4⟩ ⟨⟨β, hcan' β hcan⟩, h60', fun i hi => ?_, ?_⟩ heq
    · rw [← (heq.2 i (by rw [heq.1]; exact hi)).1]
      have := k3 i (by rw [heq.1]; exact hi)
      omega
    · rw [← (heq.2 0 hcan.1).2 0 hb0]
      exact k4
end OpRows
