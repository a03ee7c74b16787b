/-! ===== the class: pair, sought ===== -/
section CPairsHead
variable {G : GG} {M M' : Mem} {e m b : Nat} {S S' : Sg} {R K : Nat → Mc} {Q : Option Value → Mem → Prop}
def paB (R : Nat → Mc) (i j w : Nat) : List Nat → Nat := fun u => jn w (m_b (R i) u) (m_b (R j) u)
def paT (S : Sg) (R : Nat → Mc) (i j w : Nat) : List (Prop × Int32) := [(y_rc S < 10, 2), (∃ mc, mcan (y_b S) mc (paB R i j w) ∧ m_n mc ≤ 60, 3)]
def paL (S : Sg) (R : Nat → Mc) (i j w : Int32) : List (Prop × Int32) := (iW i (y_rc S) ∧ iW j (y_rc S) ∧ iW w 3, 1) :: paT S R (iN i) (iN j) (iN w)
def soT (S : Sg) (q : Nat) : List (Prop × Int32) := [(y_rc S < 10, 2), (qd_f (y_q S q) = 0 ∧ qd_s (y_q S q) = none ∧ pc (qd_n (y_q S q)) = 1, 3)]
def soL (S : Sg) (q : Int32) : List (Prop × Int32) := (iW q (y_qc S), 1) :: soT S (iN q)
/-- the class wrote scratch only, and the cells of a row that is none -/
def ScC (M M1 : Mem) (e : Nat) (S : Sg) : Prop := x_h M1 = x_h M ∧ x_r M1 = x_r M ∧ ∀ q, ¬ (e + 502 ≤ q ∧ q ≤ e + 523) → ¬ (y_rc S < 10 ∧ e + 536 + 8 * y_rc S ≤ q ∧ q < e + 540 + 8 * y_rc S) → x_i M1 q = x_i M q
theorem CoAll.scr {M1 : Mem} (h : CoAll M e S R K) (hW : SgW S) (hA : ScC M M1 e S) : CoAll M1 e S R K := by
  obtain ⟨cS, cB, cT, cH, cR, cQ, cA⟩ := h
  obtain ⟨g1, g2, g3⟩ := hA
  have hrc := hW.2.2.2.2.1
  have hqc := hW.2.2.2.2.2.2.1
  refine ⟨cS.eq g1 g2, ?_, cT.fr (g3 _ (by omega) (by omega)) rfl rfl, cH.fr (fun q h1 h2 => g3 q (by omega) (by omega)) rfl rfl rfl, fun i hi => ?_, fun k hk => ?_, cA.fr (fun q h1 h2 => g3 q (by omega) (by omega)) rfl⟩
  · unfold CoB at cB ⊢
    rw [g3 e (by omega) (by omega)]; exact cB
  · have := cR i (by omega)
    unfold RowI LeI at this ⊢
    rw [g3 (e + 536 + 8 * i) (by omega) (by omega), g3 (e + 536 + 8 * i + 1) (by omega) (by omega), g3 (e + 536 + 8 * i + 2) (by omega) (by omega), g3 (e + 536 + 8 * i + 3) (by omega) (by omega)]
    exact this
  · have := cQ k hk
    unfold CoK LeI at this ⊢
    rw [g3 (e + 540 + 8 * k) (by omega) (by omega), g3 (e + 540 + 8 * k + 1) (by omega) (by omega), g3 (e + 540 + 8 * k + 2) (by omega) (by omega), g3 (e + 540 + 8 * k + 3) (by omega) (by omega)]
    exact this
theorem ScC.rf : ScC M M e S := ⟨rfl, rfl, fun _ _ _ => rfl⟩
theorem w_pair (d : Nat) (hS : CoS M e) (hW : SgW S) (hM : MaW S R K) (hB : CoB M e S) (hR : CoR M e S R) {i j w : Int32} (hQ0 : ∀ c, rfL (paL S R i j w) c → ∀ M1, ScC M M1 e S → Q (some (.int (-1))) (x_si M1 e 15 c))
    (hQ1 : rfG (paL S R i j w) → ∀ M1 mc, AddC M M1 e S 3 (-1) mc → m_n mc ≤ 60 → mcan (y_b S) mc (paB R (iN i) (iN j) (iN w)) → Q (some (.int (nI (y_rc S)))) M1) : Call G (d + 7) 0 0 mX11_pair [.ref e, .int i, .int j, .int w] M Q := by
  have hS' := hS
  obtain ⟨a1, a2, a3, a4, a5, a6, a7, a8, a9, a10, a11, a12, b1, b2, b3, b4, b5, b6, b7, b8, c1, c2, c3, c4, c5, c6, c7, d1, d2, d3⟩ := hS
  have hb := hW.1
  have hrc := hW.2.2.2.2.1
  obtain ⟨f11, f12, f13, f14, f15⟩ := id hB
  have refuse : ∀ c, rfL (paL S R i j w) c → Call G (d + 6) 0 0 mX11_refuse [.ref e, .int c] M (fun r6 M7 => ∃ v8 : Int32, r6 = some (.int v8) ∧ Q (some (.int v8)) M7) := fun c h => w_refuse (d + 5) a1 ⟨_, rfl, hQ0 c h M ScC.rf⟩
  have bad : ¬ (iW i (y_rc S) ∧ iW j (y_rc S) ∧ iW w 3) → Call G (d + 6) 0 0 mX11_refuse [.ref e, .int 1] M (fun r6 M7 => ∃ v8 : Int32, r6 = some (.int v8) ∧ Q (some (.int v8)) M7) := fun h => refuse 1 (Or.inl ⟨h, rfl⟩)
  refine eX11_pair e _ _ _ ⟨a1, ?_⟩
  rw [f12]
  refine w_in0 (d + 5) (by omega) (fun h => ⟨0, rfl, fun _ => ⟨a1, bad (fun z => iW.not h (by omega) z.1)⟩, fun z => absurd rfl z⟩) (fun i' hi ei => ⟨1, rfl, fun z => absurd z (by decide), fun _ => ⟨a1, ?_⟩⟩)
  rw [f12]
  refine w_in0 (d + 5) (by omega) (fun h => ⟨0, rfl, fun _ => ⟨a1, bad (fun z => iW.not h (by omega) z.2.1)⟩, fun z => absurd rfl z⟩) (fun j' hj ej => ⟨1, rfl, fun z => absurd z (by decide), fun _ => ?_⟩)
  refine w_in0 (n := 3) (d + 5) (by omega) (fun h => ⟨0, rfl, fun z => absurd rfl z, fun _ => ⟨a1, bad (fun z => iW.not h (by omega) z.2.2)⟩⟩) (fun w' hw ew => ⟨1, rfl, fun _ => ⟨a1, ?_⟩, fun z => absurd z (by decide)⟩)
  have A1 : iW i (y_rc S) ∧ iW j (y_rc S) ∧ iW w 3 := ⟨by rw [ei]; exact iW_nI hi (by omega), by rw [ej]; exact iW_nI hj (by omega), by rw [ew]; exact iW_nI hw (by omega)⟩
  have ii : iN i = i' := by rw [ei]; exact iN_nI (by omega)
  have ij : iN j = j' := by rw [ej]; exact iN_nI (by omega)
  have iw : iN w = w' := by rw [ew]; exact iN_nI (by omega)
  have qT : ∀ c, rfL (paT S R i' j' w') c → ∀ M1, ScC M M1 e S → Q (some (.int (-1))) (x_si M1 e 15 c) := fun c h => hQ0 c (Or.inr ⟨A1, by rw [ii, ij, iw]; exact h⟩)
  have gT : rfG (paT S R i' j' w') → ∀ M1 mc, AddC M M1 e S 3 (-1) mc → m_n mc ≤ 60 → mcan (y_b S) mc (paB R i' j' w') → Q (some (.int (nI (y_rc S)))) M1 := fun h => by
    have := hQ1 ⟨A1, by rw [ii, ij, iw]; exact h⟩
    rw [ii, ij, iw] at this
    exact this
  clear hQ0 hQ1 bad refuse A1 ii ij iw
  subst ei ej ew
  rw [f12, show (10 : Int32) = nI 10 from rfl, nI_ltI (by omega) (by omega)]
  refine ⟨fun cr => ?_, fun cr => w_refuse (d + 5) a1 ⟨_, rfl, qT 2 (Or.inl ⟨cr, rfl⟩) M ScC.rf⟩⟩
  obtain ⟨p1, p2, p3, p4⟩ := b1.2 i' (by omega)
  obtain ⟨q1, q2, q3, q4⟩ := b1.2 j' (by omega)
  obtain ⟨r1, r2, r3, r4⟩ := b1.2 _ cr
  obtain ⟨⟨βi, ci⟩, gi2, gi3, gi4⟩ := hM.1 i' hi
  obtain ⟨⟨βj, cj⟩, gj2, gj3, gj4⟩ := hM.1 j' hj
  refine ⟨e + 502, a10, e + 1, a2, by rw [b1.1]; exact ⟨by decide, by decide⟩, by rw [b1.1]; exact vp_in_nI (show i' < 10 by omega) (by omega), e + 536 + 8 * i', by rw [nI_clamp (by omega)]; exact p1, p2, e + 536 + 8 * i' + 1, p3, by rw [b1.1]; exact vp_in_nI (show j' < 10 by omega) (by omega), e + 536 + 8 * j', by rw [nI_clamp (by omega)]; exact q1, q2, e + 536 + 8 * j' + 1, q3, by rw [b1.1]; exact vp_in_nI cr (by omega), e + 536 + 8 * y_rc S, by rw [nI_clamp (by omega)]; exact r1, r2, e + 536 + 8 * y_rc S + 1, r3, c6.1, ?_⟩
  rw [f11]
  have hA : ∀ q ∈ [e + 502, e + 502 + 1, e + 502 + 2, e + 502 + 3, e + 502 + 4, e + 502 + 5, e + 502 + 6, e + 502 + 7, e + 502 + 8, e + 502 + 15, e + 502 + 16, e + 536 + 8 * y_rc S + 1, e + 536 + 8 * y_rc S + 2, e + 536 + 8 * y_rc S + 3], (e + 502 ≤ q ∧ q ≤ e + 523) ∨ (e + 536 + 8 * y_rc S < q ∧ q < e + 540 + 8 * y_rc S) := fun q hq => by
    simp at hq
    omega
  refine w_weavePair d c6 (by omega) (by omega) r4 (by simp; omega) (by omega) (by omega) (by omega) p4 (hR i' hi).2.2 q4 (hR j' hj).2.2 ⟨ci.1, gi2⟩ ⟨cj.1, gj2⟩ ci.2.1 cj.2.1 gi3 gj3 (by simp; omega) (by simp; omega) (fun M1 mc g h60 hI hcan => ⟨nI 1, rfl, fun _ => ⟨by rw [g.h]; exact a1, ?_⟩, fun z => absurd z (by decide)⟩) (fun M1 g hno => ⟨nI 0, rfl, fun z => absurd rfl z, fun _ => ⟨by rw [g.h]; exact a1, w_refuse (d + 5) (by rw [g.h]; exact a1) ⟨_, rfl, qT 3 (Or.inr ⟨cr, Or.inl ⟨fun z => ?_, rfl⟩⟩) M1 ⟨g.h, g.r, fun q h1 h2 => g.i (fun c => ?_)⟩⟩⟩⟩)
  · exact w_addC (kd := 3) (oq := -1) (mc := mc) (d + 4) hS' hB cr g hA hI (fun M2 hA => ⟨_, rfl, gT ⟨cr, ⟨mc, hcan, h60⟩, trivial⟩ M2 _ hA h60 hcan⟩)
  · obtain ⟨mc, z1, z2⟩ := z
    have := hno mc z1
    omega
  · have := hA q c
    omega
theorem w_sought (d : Nat) (hS : CoS M e) (hW : SgW S) (hM : MaW S R K) (hB : CoB M e S) (hQ : CoQ M e S K) {x : Int32} (hQ0 : ∀ c, rfL (soL S x) c → Q (some (.int (-1))) (x_si M e 15 c))
    (hQ1 : rfG (soL S x) → x = nI (iN x) → iN x < y_qc S → ∀ M1, AddC M M1 e S 4 (nI (iN x)) (K (iN x)) → Q (some (.int (nI (y_rc S)))) M1) : Call G (d + 4) 0 0 mX11_sought [.ref e, .int x] M Q := by
  have hS' := hS
  obtain ⟨a1, a2, a3, a4, a5, a6, a7, a8, a9, a10, a11, a12, b1, b2, b3, b4, b5, b6, b7, b8, c1, c2, c3, c4, c5, c6, c7, d1, d2, d3⟩ := hS
  have hb := hW.1
  have hrc := hW.2.2.2.2.1
  have hqc := hW.2.2.2.2.2.2.1
  obtain ⟨f11, f12, f13, f14, f15⟩ := id hB
  refine eX11_sought e _ ⟨a1, ?_⟩
  rw [f13]
  refine w_in0 (d + 2) (by omega) (fun h => ⟨0, rfl, fun z => absurd rfl z, fun _ => ⟨a1, w_refuse (d + 2) a1 ⟨_, rfl, hQ0 1 (Or.inl ⟨fun z => iW.not h (by omega) z, rfl⟩)⟩⟩⟩) (fun k hk ek => ⟨1, rfl, fun _ => ⟨a1, ?_⟩, fun z => absurd z (by decide)⟩)
  have A1 : iW x (y_qc S) := by rw [ek]; exact iW_nI hk (by omega)
  have ix : iN x = k := by rw [ek]; exact iN_nI (by omega)
  have qT : ∀ c, rfL (soT S k) c → Q (some (.int (-1))) (x_si M e 15 c) := fun c h => hQ0 c (Or.inr ⟨A1, by rw [ix]; exact h⟩)
  have gT : rfG (soT S k) → ∀ M1, AddC M M1 e S 4 (nI k) (K k) → Q (some (.int (nI (y_rc S)))) M1 := fun h => by
    have := hQ1 ⟨A1, by rw [ix]; exact h⟩
    rw [ix] at this
    exact this ek hk
  clear hQ0 hQ1 A1 ix
  subst ek
  rw [f12, show (10 : Int32) = nI 10 from rfl, nI_ltI (by omega) (by omega)]
  refine ⟨fun cr => ?_, fun cr => w_refuse (d + 2) a1 ⟨_, rfl, qT 2 (Or.inl ⟨cr, rfl⟩)⟩⟩
  have hnf : ∀ k, k < y_qc S → x_i M (e + 540 + 8 * k) 1 = 0 → x_i M (e + 540 + 8 * k) 3 = -1 → x_i M (e + 540 + 8 * k) 4 = nI (qd_n (y_q S k)) ∧ qd_n (y_q S k) < 256 := fun k hk g1 g2 => by
    obtain ⟨-, -, o4, o256, -⟩ := ok_c hW hM hQ hk g1 g2
    exact ⟨o4, o256⟩
  show Call G (d + 3) 0 0 mX11_askedOf [.ref e, .int (nI k), .int (nI 1)] M _
  refine w_askedN d a1 a3 b2 f13 hqc (by omega) hnf (fun h => ⟨none, rfl, fun _ => ⟨a1, w_refuse (d + 2) a1 ⟨_, rfl, qT 3 (Or.inr ⟨cr, Or.inl ⟨fun z => ?_, rfl⟩⟩)⟩⟩, fun v11 z => (by cases z)⟩) (fun k' hk' ek' g1 g2 gp => ⟨some (e + 540 + 8 * k' + 1), rfl, fun z => (by cases z), fun v11 ev => ?_⟩)
  · exact h k hk rfl ⟨(ask_c hW hQ hk).1.mpr z.1, (ask_c hW hQ hk).2.mpr z.2.1, z.2.2⟩
  cases ev
  have := nI_same rfl ek' (by omega) (by omega)
  subst this
  obtain ⟨oI, ⟨⟨β, oc⟩, o40, ok1, o00⟩, o4, o256, o3, o27⟩ := ok_c hW hM hQ hk g1 g2
  obtain ⟨q1, q2, q3, q4⟩ := b2.2 k (by omega)
  obtain ⟨r1, r2, r3, r4⟩ := b1.2 _ cr
  have ef : fn (y_b S) (qd_n (y_q S k)) = y_b S := by unfold fn; rw [gp, Nat.pow_one]
  rw [ef] at oI
  have n120 : m_n (K k) * y_b S ≤ 120 := by
    have : m_n (K k) * y_b S ≤ 40 * 3 := Nat.mul_le_mul o40 (by omega)
    omega
  refine ⟨a1, e + 1, a2, by rw [b1.1]; exact ⟨by decide, by decide⟩, by rw [f12, b1.1]; exact vp_in_nI cr (by omega), e + 536 + 8 * y_rc S, by rw [f12, nI_clamp (by omega)]; exact r1, r2, e + 536 + 8 * y_rc S + 1, r3, r4.1, ?_⟩
  refine Call.mono (k_become d (by omega) r4 (by omega) (by omega) q4 oI (by omega) (by omega) ⟨by simp; omega, by simp; omega, by simp; omega⟩) ?_
  rintro r M1 ⟨rfl, hI, g⟩
  refine ⟨rfl, by rw [g.h]; exact a1, ?_⟩
  refine w_addC (kd := 4) (oq := nI k) (mc := K k) (d + 1) hS' hB cr g.fr (fun q hq => ?_) hI (fun M2 hA => ⟨_, rfl, gT ⟨cr, ⟨(ask_c hW hQ hk).1.mp g1, (ask_c hW hQ hk).2.mp g2, gp⟩, trivial⟩ M2 hA⟩)
  simp at hq
  omega
end CPairsHead
