/-! ===== both alike: holds ===== -/
section OpHolds
variable {G : GG} {M M' : Mem} {e m b : Nat} {S S' : Sg} {R K : Nat → Mc} {Q : Option Value → Mem → Prop}
/-- the number of the name j of n; another is taken for 0 -/
def hoV (n j : Nat) (A : Int64) (u : Nat) : Prop := u ≤ 4611686018427387904 ∧ (j < n → A = lN u) ∧ (n ≤ j → u = 0)
def hoN (n j : Nat) (A : Int64) : Prop := j < n ∧ ∀ u, u ≤ 4611686018427387904 → A ≠ lN u
theorem hoV.one {n j u u' : Nat} {A : Int64} (h : hoV n j A u) (h' : hoV n j A u') : u = u' := by
  obtain ⟨h1, h2, h3⟩ := h
  obtain ⟨g1, g2, g3⟩ := h'
  rcases Nat.lt_or_ge j n with c | c
  · exact (pk_lEQ (by omega) (by omega)).mp ((h2 c).symm.trans (g2 c))
  · rw [h3 c, g3 c]
theorem hoV.no {n j u : Nat} {A : Int64} (h : hoV n j A u) (h' : hoN n j A) : False := h'.2 u h.1 (h.2.1 h'.1)
theorem hoV.z {n j : Nat} {A : Int64} (h : n ≤ j) : hoV n j A 0 := ⟨by omega, fun c => absurd c (by omega), fun _ => rfl⟩
theorem w_holds (d : Nat) (ho : (x_h M e).1 = 27) (hb : b = 2 ∨ b = 3) {a q0 qc : Nat} {x : Int32} {A B C : Int64} {nf : Nat → Nat} {mq : Nat → Mc} (h1 : x_r M e 1 = some a) (hqs : QusS M a q0) (hb11 : x_i M e 11 = nI b) (hqc : x_i M e 13 = nI qc) (hq : qc ≤ 10) (hok : ∀ k, k < qc → x_i M (q0 + 8 * k) 1 = 0 → x_i M (q0 + 8 * k) 3 = -1 → LeI M (q0 + 8 * k + 1) (q0 + 8 * k + 2) (q0 + 8 * k + 3) (m_n (mq k)) (fn b (nf k)) (m_s (mq k)) (m_k (mq k)) ∧ QueG b (nf k) (mq k) ∧ x_i M (q0 + 8 * k) 4 = nI (nf k) ∧ nf k < 256 ∧ pc (nf k) ≤ 3 ∧ fn b (nf k) ≤ 27)
    (hQ0 : (∀ k, k < qc → x = nI k → ¬ (x_i M (q0 + 8 * k) 1 = 0 ∧ x_i M (q0 + 8 * k) 3 = -1)) → Q (some (.int (-1))) M)
    (hQ0b : ∀ k, k < qc → x = nI k → x_i M (q0 + 8 * k) 1 = 0 → x_i M (q0 + 8 * k) 3 = -1 → (hoN (pc (nf k)) 0 A ∨ hoN (pc (nf k)) 1 B ∨ hoN (pc (nf k)) 2 C) → Q (some (.int (-1))) M)
    (hQ1 : ∀ k, k < qc → x = nI k → x_i M (q0 + 8 * k) 1 = 0 → x_i M (q0 + 8 * k) 3 = -1 → ∀ u v w, hoV (pc (nf k)) 0 A u → hoV (pc (nf k)) 1 B v → hoV (pc (nf k)) 2 C w → Q (some (.int (nI (m_k (mq k) (rn (m_s (mq k)) 0 (rw_ b (pc (nf k)) u v w 64)))))) M) :
    Call G (d + 4) 0 0 mX11_holds [.ref e, .int x, .long A, .long B, .long C] M Q := by
  refine eX11_holds e _ _ _ _ ⟨ho, w_asked (d + 1) ho h1 hqs hqc hq (fun h => ⟨none, rfl, fun _ => hQ0 h, fun v5 c => (by cases c)⟩) (fun k hk ek g1 g2 => ⟨some (q0 + 8 * k + 1), rfl, fun c => (by cases c), fun v5 ev => ?_⟩)⟩
  cases ev
  have q0b := hQ0b k hk ek g1 g2
  have q1 := hQ1 k hk ek g1 g2
  obtain ⟨oI, ⟨⟨β, oc⟩, o40, ok1, o00⟩, o4, o256, o3, o27⟩ := hok k hk g1 g2
  obtain ⟨hri, s1, s2, s3⟩ := hqs.2 k (by omega)
  refine ⟨ho, a, h1, by rw [hqs.1]; exact ⟨by decide, by decide⟩, by rw [ek, hqs.1]; exact vp_in_nI (show k < 10 by omega) (by omega), q0 + 8 * k, by rw [ek, nI_clamp (by omega)]; exact hri, s1, ?_⟩
  rw [o4]
  refine w_bitCount (d + 2) o256 ⟨_, rfl, ?_⟩
  generalize hn : pc (nf k) = n at *
  have ef : fn b (nf k) = b ^ n := by unfold fn; rw [hn]
  have hE : ∀ t, t ≤ 4611686018427387904 → t < b ^ (if b = 2 then 63 else 40) := fun t ht => by
    rcases hb with rfl | rfl
    · simp; omega
    · simp; omega
  have fin : ∀ u v w, hoV n 0 A u → hoV n 1 B v → hoV n 2 C w → Call G (d + 3) 0 0 mX1_readsAll [.ref (q0 + 8 * k + 1), .int (nI n), .long A, .long B, .long C, .int (nI b)] M (fun r4 M5 => ∃ v6 : Int32, r4 = some (.int v6) ∧ (x_h M5 (q0 + 8 * k + 1)).1 = 17 ∧ Call G (d + 3) 0 0 mX1_mark [.ref (q0 + 8 * k + 1), .int v6] M5 (fun r8 M9 => ∃ v10 : Int32, r8 = some (.int v10) ∧ Q (some (.int v10)) M9)) := by
    intro u v w hu hv hw
    have hc : ∀ i, i < m_n (mq k) → ∀ g, g < b ^ n → m_s (mq k) i g < m_n (mq k) := fun i hi g hg => oc.2.1 i hi g (by rw [ef]; exact hg)
    have nm : m_n (mq k) * b ^ n ≤ 1080 := by
      have : b ^ n ≤ 27 := by rw [← ef]; exact o27
      exact Nat.mul_le_mul o40 this
    have lI : LeI M (q0 + 8 * k + 1) (q0 + 8 * k + 2) (q0 + 8 * k + 3) (m_n (mq k)) (b ^ n) (m_s (mq k)) (m_k (mq k)) := by rw [← ef]; exact oI
    refine w_readsAny (d + 1) hb (x := u) (y := v) (z := w) hu.2.1 hv.2.1 hw.2.1 o3 s3 lI nm oc.1 hc (by have := hu.1; omega) (by have := hv.1; omega) (by have := hw.1; omega) ⟨_, rfl, s3.1, ?_⟩
    have hlt : ∀ t, rn (m_s (mq k)) 0 (rw_ b n u v w t) < m_n (mq k) := fun t => rn_lt hc _ 0 (rw_wd (by omega) o3 t) oc.1
    refine w_markC (d + 1) s3 oI (by omega) (hlt _) ⟨_, rfl, ?_⟩
    have h64 := q1 u v w hu hv hw
    have eq : rn (m_s (mq k)) 0 (rw_ b n u v w 64) = rn (m_s (mq k)) 0 (rw_ b n u v w (if b = 2 then 63 else 40)) := by
      have := rw_lead (mn := n) o00 (hE u hu.1) (hE v hv.1) (hE w hw.1) (show 1 < b by omega) (64 - (if b = 2 then 63 else 40))
      rw [← this]
      congr 2
      split <;> omega
    rw [eq] at h64
    exact h64
  have H54 : ∀ u v, hoV n 0 A u → hoV n 1 B v → LX11_holds_54 G (d + 3) 0 0 e x A B C (q0 + 8 * k + 1) (nI n) M Q := by
    intro u v hu hv
    refine vX11_holds_54 _ _ _ _ _ _ _ ⟨fun c => ⟨ho, s3.1, ?_⟩, fun c => ?_⟩
    · rw [show (2 : Int32) = nI 2 from rfl, nI_leI (by omega) (by omega)] at c
      rw [hb11]
      exact fin u v 0 hu hv (hoV.z c)
    · rw [show (2 : Int32) = nI 2 from rfl, nI_leI (by omega) (by omega)] at c
      refine w_outside (d + 2) (fun h => ⟨1, rfl, fun z => absurd z (by decide), fun _ => q0b (Or.inr (Or.inr ⟨by omega, h⟩))⟩) (fun w hw ew => ⟨0, rfl, fun _ => ⟨ho, s3.1, ?_⟩, fun z => absurd rfl z⟩)
      rw [hb11]
      exact fin u v w hu hv ⟨hw, fun _ => ew, fun z => absurd z (by omega)⟩
  have i0 : nI n ≤ 0 ↔ n ≤ 0 := nI_leI (b := 0) (by omega) (by omega)
  have i1 : nI n ≤ 1 ↔ n ≤ 1 := nI_leI (b := 1) (by omega) (by omega)
  rw [i0, i1]
  have H1 : ∀ u, hoV n 0 A u → (n ≤ 1 → LX11_holds_54 G (d + 3) 0 0 e x A B C (q0 + 8 * k + 1) (nI n) M Q) ∧ (¬ n ≤ 1 → Call G (d + 3) 0 0 mX11_outside [.long B] M (fun r17 M18 => ∃ v19 : Int32, r17 = some (.int v19) ∧ (¬ v19 = 0 → Q (some (.int (-1))) M18) ∧ (v19 = 0 → LX11_holds_54 G (d + 3) 0 0 e x A B C (q0 + 8 * k + 1) (nI n) M18 Q))) := by
    intro u hu
    exact ⟨fun c => H54 u 0 hu (hoV.z c), fun c => w_outside (d + 2) (fun h => ⟨1, rfl, fun _ => q0b (Or.inr (Or.inl ⟨by omega, h⟩)), fun z => absurd z (by decide)⟩) (fun v hv ev => ⟨0, rfl, fun z => absurd rfl z, fun _ => H54 u v hu ⟨hv, fun _ => ev, fun z => absurd z (by omega)⟩⟩)⟩
  refine ⟨fun c => H1 0 (hoV.z c), fun c => ?_⟩
  exact w_outside (d + 2) (fun h => ⟨1, rfl, fun _ => q0b (Or.inl ⟨by omega, h⟩), fun z => absurd z (by decide)⟩) (fun u hu eu => ⟨0, rfl, fun z => absurd rfl z, fun _ => H1 u ⟨hu, fun _ => eu, fun z => absurd z (by omega)⟩⟩)
theorem ReQ.fr {q f : Nat} {mc : Mc} {F A : List Nat} (h : ReQ M m q f mc) (g : FrM M M' m F A) (h1 : 12 ∉ A ∧ 13 ∉ A ∧ 14 ∉ A) : ReQ M' m q f mc := by
  unfold ReQ at h ⊢
  rw [g.i (by omega) h1.1, g.i (by omega) h1.2.1, g.i (by omega) h1.2.2]
  exact h
theorem ur_holds (d : Nat) (hS : ReS M m) (hb : b = 2 ∨ b = 3) (h0 : x_i M m 0 = nI b) {qc : Nat} {x : Int32} {A B C : Int64} {nf : Nat → Nat} {mq : Nat → Mc} (h7 : x_i M m 7 = nI qc) (hq : qc ≤ 10) (hok : ∀ k, k < qc → x_i M (m + 6) k = 0 → x_i M (m + 8) k = -1 → ReQ M m k (fn b (nf k)) (mq k) ∧ QueG b (nf k) (mq k) ∧ x_i M (m + 9) k = nI (nf k) ∧ nf k < 256 ∧ pc (nf k) ≤ 3 ∧ fn b (nf k) ≤ 27)
    (hQ0 : (∀ k, k < qc → x = nI k → ¬ (x_i M (m + 6) k = 0 ∧ x_i M (m + 8) k = -1)) → Q (some (.int (-1))) M)
    (hQ0b : ∀ k, k < qc → x = nI k → x_i M (m + 6) k = 0 → x_i M (m + 8) k = -1 → (hoN (pc (nf k)) 0 A ∨ hoN (pc (nf k)) 1 B ∨ hoN (pc (nf k)) 2 C) → Q (some (.int (-1))) M)
    (hQ1 : ∀ k, k < qc → x = nI k → x_i M (m + 6) k = 0 → x_i M (m + 8) k = -1 → ∀ u v w, hoV (pc (nf k)) 0 A u → hoV (pc (nf k)) 1 B v → hoV (pc (nf k)) 2 C w → ∀ M1, FrM M M1 m [] [58] → Q (some (.int (nI (m_k (mq k) (rn (m_s (mq k)) 0 (rw_ b (pc (nf k)) u v w 64)))))) M1) :
    Call G (d + 3) 0 0 mX12_holds [.ref m, .int x, .long A, .long B, .long C] M Q := by
  refine eX12_holds m _ _ _ _ ⟨hS.1, ur_canAsk d hS h7 hq (fun h => ⟨0, rfl, fun z => absurd rfl z, fun _ => hQ0 h⟩) (fun k hk ek g1 g2 => ⟨1, rfl, fun _ => ?_, fun z => absurd z (by decide)⟩)⟩
  have q0b := hQ0b k hk ek g1 g2
  have q1 := hQ1 k hk ek g1 g2
  obtain ⟨oI, ⟨⟨β, oc⟩, o40, ok1, o00⟩, o4, o256, o3, o27⟩ := hok k hk g1 g2
  refine ⟨hS.1, m + 9, hS.r9, by rw [hS.h9], by rw [ek, hS.h9]; exact vp_in_nI (show k < 10 by omega) (by omega), ?_⟩
  rw [ek, nI_clamp (by omega), o4]
  refine u_bits (d + 1) o256 ⟨_, rfl, ?_⟩
  generalize hn : pc (nf k) = n at *
  have ef : fn b (nf k) = b ^ n := by unfold fn; rw [hn]
  have hc : ∀ i, i < m_n (mq k) → ∀ g, g < b ^ n → m_s (mq k) i g < m_n (mq k) := fun i hi g hg => oc.2.1 i hi g (by rw [ef]; exact hg)
  have H99 : ∀ u v w, hoV n 0 A u → hoV n 1 B v → hoV n 2 C w → ∀ z, z = lN u → LX12_holds_99 G (d + 2) 0 0 m (nI k) A B C (nI n) 0 m 0 z M Q := by
    rintro u v w hu hv hw _ rfl
    have hu63 : u < 2 ^ 63 := by have := hu.1; omega
    have hv63 : v < 2 ^ 63 := by have := hv.1; omega
    have hw63 : w < 2 ^ 63 := by have := hw.1; omega
    refine vX12_holds_99 _ _ _ _ _ _ _ _ _ _ ⟨hS.1, ?_⟩
    refine ur_digitsOf (b := b) (w := 0) (places := 64) (v := u) (d + 1) hS (by omega) (by omega) h0 (by omega) (by omega) (by omega) hu63 (fun M1 f1 dg1 kp1 => ⟨rfl, ?_⟩)
    have S1 := f1.S hS
    have second : ∀ z, z = lN v → Call G (d + 2) 0 0 mX12_digitsOf [.ref m, .int 1, .long z, .int 64] M1 (fun r6 M7 => r6 = none ∧ (nI n ≤ 2 → (x_h M7 m).1 = 28 ∧ Call G (d + 2) 0 0 mX12_digitsOf [.ref m, .int 2, .long 0, .int 64] M7 (fun r10 M11 => r10 = none ∧ LX12_holds_148 G (d + 2) 0 0 m (nI k) A B C (nI n) 0 0 0 none none M11 Q)) ∧ (¬ nI n ≤ 2 → (x_h M7 m).1 = 28 ∧ Call G (d + 2) 0 0 mX12_digitsOf [.ref m, .int 2, .long C, .int 64] M7 (fun r13 M14 => r13 = none ∧ LX12_holds_148 G (d + 2) 0 0 m (nI k) A B C (nI n) 0 0 0 none none M14 Q))) := by
      rintro _ rfl
      refine ur_digitsOf (b := b) (w := 1) (places := 64) (v := v) (d + 1) S1 (by omega) (by omega) (by rw [f1.fm (by simp)]; exact h0) (by omega) (by omega) (by omega) hv63 (fun M2 f2 dg2 kp2 => ⟨rfl, ?_⟩)
      have S2 := f2.S S1
      have third : ∀ z, z = lN w → Call G (d + 2) 0 0 mX12_digitsOf [.ref m, .int 2, .long z, .int 64] M2 (fun r10 M11 => r10 = none ∧ LX12_holds_148 G (d + 2) 0 0 m (nI k) A B C (nI n) 0 0 0 none none M11 Q) := by
        rintro _ rfl
        refine ur_digitsOf (b := b) (w := 2) (places := 64) (v := w) (d + 1) S2 (by omega) (by omega) (by rw [f2.fm (by simp), f1.fm (by simp)]; exact h0) (by omega) (by omega) (by omega) hw63 (fun M3 f3 dg3 kp3 => ⟨rfl, ?_⟩)
        have f13 : FrM M M3 m [] [58] := (f1.tr f2 (fun _ h => h) (fun _ h => h)).tr f3 (fun _ h => h) (fun _ h => h)
        have S3 := f3.S S2
        have oI3 : ReQ M3 m k (b ^ n) (mq k) := by
          rw [ef] at oI
          exact oI.fr f13 (by simp)
        refine ur_holds148 (x := u) (y := v) (z := w) (d + 1) S3 hb (by rw [f13.fm (by simp)]; exact h0) (by omega) o3 oI3 oc.1 o40 hc ok1 (fun j hj => ?_) (fun j hj => ?_) (fun j hj => ?_) (q1 u v w hu hv hw M3 f13) none none rfl rfl
        · rw [kp3 _ (by omega), kp2 _ (by omega), dg1 j hj]
        · rw [kp3 _ (by omega), dg2 j hj]
        · rw [dg3 j hj]
      refine ⟨fun c => ⟨S2.1, third 0 ?_⟩, fun c => ⟨S2.1, third C ?_⟩⟩
      · rw [show (2 : Int32) = nI 2 from rfl, nI_leI (by omega) (by omega)] at c
        rw [hw.2.2 c]; rfl
      · rw [show (2 : Int32) = nI 2 from rfl, nI_leI (by omega) (by omega)] at c
        exact hw.2.1 (by omega)
    refine ⟨fun c => ⟨S1.1, second 0 ?_⟩, fun c => ⟨S1.1, second B ?_⟩⟩
    · rw [show (1 : Int32) = nI 1 from rfl, nI_leI (by omega) (by omega)] at c
      rw [hv.2.2 c]; rfl
    · rw [show (1 : Int32) = nI 1 from rfl, nI_leI (by omega) (by omega)] at c
      exact hv.2.1 (by omega)
  have i0 : nI n ≤ 0 ↔ n ≤ 0 := nI_leI (b := 0) (by omega) (by omega)
  have i1 : nI n ≤ 1 ↔ n ≤ 1 := nI_leI (b := 1) (by omega) (by omega)
  have i2 : nI n ≤ 2 ↔ n ≤ 2 := nI_leI (b := 2) (by omega) (by omega)
  have H55 : ∀ u v, hoV n 0 A u → hoV n 1 B v → LX12_holds_55 G (d + 2) 0 0 m (nI k) A B C (nI n) M Q := by
    intro u v hu hv
    have t99 : ∀ w, hoV n 2 C w → ((0 : Int32) = 0 → (nI n ≤ 0 → LX12_holds_99 G (d + 2) 0 0 m (nI k) A B C (nI n) 0 m 0 0 M Q) ∧ (¬ nI n ≤ 0 → LX12_holds_99 G (d + 2) 0 0 m (nI k) A B C (nI n) 0 m 0 A M Q)) ∧ (¬ (0 : Int32) = 0 → Q (some (.int (-1))) M) := fun w hw => by
      refine ⟨fun _ => ⟨fun c => H99 u v w hu hv hw 0 ?_, fun c => H99 u v w hu hv hw A ?_⟩, fun z => absurd rfl z⟩
      · rw [hu.2.2 (i0.mp c)]; rfl
      · rw [i0] at c
        exact hu.2.1 (by omega)
    refine vX12_holds_55 _ _ _ _ _ _ ⟨fun c => t99 0 (hoV.z (i2.mp c)), fun c => ?_⟩
    rw [i2] at c
    exact ur_isOutside (d + 1) (fun h => ⟨1, rfl, fun z => absurd z (by decide), fun _ => ⟨fun z => absurd z (by decide), fun _ => q0b (Or.inr (Or.inr ⟨by omega, h⟩))⟩⟩) (fun w hw ew => ⟨0, rfl, fun _ => t99 w ⟨hw, fun _ => ew, fun z => absurd z (by omega)⟩, fun z => absurd rfl z⟩)
  rw [i0, i1]
  have H1 : ∀ u, hoV n 0 A u → (n ≤ 1 → LX12_holds_55 G (d + 2) 0 0 m (nI k) A B C (nI n) M Q) ∧ (¬ n ≤ 1 → Call G (d + 2) 0 0 mX12_isOutside [.long B, .long 0, .long 4611686018427387904] M (fun r28 M29 => ∃ v30 : Int32, r28 = some (.int v30) ∧ (¬ v30 = 0 → ((1 : Int32) = 0 → (n ≤ 0 → LX12_holds_99 G (d + 2) 0 0 m (nI k) A B C (nI n) 1 m 0 0 M29 Q) ∧ (¬ n ≤ 0 → LX12_holds_99 G (d + 2) 0 0 m (nI k) A B C (nI n) 1 m 0 A M29 Q)) ∧ (¬ (1 : Int32) = 0 → Q (some (.int (-1))) M29)) ∧ (v30 = 0 → LX12_holds_55 G (d + 2) 0 0 m (nI k) A B C (nI n) M29 Q))) := by
    intro u hu
    exact ⟨fun c => H55 u 0 hu (hoV.z c), fun c => ur_isOutside (d + 1) (fun h => ⟨1, rfl, fun _ => ⟨fun z => absurd z (by decide), fun _ => q0b (Or.inr (Or.inl ⟨by omega, h⟩))⟩, fun z => absurd z (by decide)⟩) (fun v hv ev => ⟨0, rfl, fun z => absurd rfl z, fun _ => H55 u v hu ⟨hv, fun _ => ev, fun z => absurd z (by omega)⟩⟩)⟩
  refine ⟨fun c => H1 0 (hoV.z c), fun c => ?_⟩
  exact ur_isOutside (d + 1) (fun h => ⟨1, rfl, fun _ => ⟨fun z => absurd z (by decide), fun _ => q0b (Or.inl ⟨by omega, h⟩)⟩, fun z => absurd z (by decide)⟩) (fun u hu eu => ⟨0, rfl, fun z => absurd rfl z, fun _ => H1 u ⟨hu, fun _ => eu, fun z => absurd z (by omega)⟩⟩)
theorem op_holds (d : Nat) {x : Int32} {A B C : Int64} : COp G (d + 4) e m mX11_holds mX12_holds [.int x, .long A, .long B, .long C] := by
  intro M hC0
  obtain ⟨hem, S, R, K, hW, hM, ⟨cS, cB, cT, cH, cR, cQ, cA⟩, ⟨rS, rB, rT, rH, rR, rQ, rA⟩⟩ := hC0.one
  obtain ⟨a1, a2, a3, a4, a5, a6, a7, a8, a9, a10, a11, a12, b1, b2, -⟩ := cS
  have hqc := hW.2.2.2.2.2.2.1
  have hb := hW.1
  have t1 : ∀ k, k < y_qc S → (x_i M (e + 540 + 8 * k) 1 = 0 ↔ x_i M (m + 6) k = 0) := fun k hk => (ask_c hW cQ hk).1.trans (ask_r hW rQ hk).1.symm
  have t2 : ∀ k, k < y_qc S → (x_i M (e + 540 + 8 * k) 3 = -1 ↔ x_i M (m + 8) k = -1) := fun k hk => (ask_c hW cQ hk).2.trans (ask_r hW rQ hk).2.symm
  have okr := fun k (hk : k < y_qc S) g1 g2 => ok_r hW hM rQ hk g1 g2
  refine w_holds (b := y_b S) (nf := fun k => qd_n (y_q S k)) (mq := K) d a1 hb a3 b2 cB.1 cB.2.2.1 hqc (fun k hk g1 g2 => ok_c hW hM cQ hk g1 g2) (fun h => ⟨_, rfl, ur_holds (b := y_b S) (nf := fun k => qd_n (y_q S k)) (mq := K) (d + 1) rS hb rB.1 rB.2.2.1 hqc okr (fun _ => ⟨rfl, hC0⟩) (fun k hk ek g1 g2 _ => ?_) (fun k hk ek g1 g2 u v w _ _ _ M1 _ => ?_)⟩) (fun k hk ek g1 g2 hbad => ⟨_, rfl, ur_holds (b := y_b S) (nf := fun k => qd_n (y_q S k)) (mq := K) (d + 1) rS hb rB.1 rB.2.2.1 hqc okr (fun h => ?_) (fun k' hk' ek' g1' g2' _ => ⟨rfl, hC0⟩) (fun k' hk' ek' g1' g2' u v w hu hv hw M1 _ => ?_)⟩) (fun k hk ek g1 g2 u v w hu hv hw => ⟨_, rfl, ur_holds (b := y_b S) (nf := fun k => qd_n (y_q S k)) (mq := K) (d + 1) rS hb rB.1 rB.2.2.1 hqc okr (fun h => ?_) (fun k' hk' ek' g1' g2' hbad => ?_) (fun k' hk' ek' g1' g2' u' v' w' hu' hv' hw' M1 g => ?_)⟩)
  · exact absurd ⟨(t1 k hk).mpr g1, (t2 k hk).mpr g2⟩ (h k hk ek)
  · exact absurd ⟨(t1 k hk).mpr g1, (t2 k hk).mpr g2⟩ (h k hk ek)
  · exact absurd ⟨(t1 k hk).mp g1, (t2 k hk).mp g2⟩ (h k hk ek)
  · have := nI_same ek ek' (by omega) (by omega)
    subst this
    rcases hbad with c | c | c
    · exact (hu.no c).elim
    · exact (hv.no c).elim
    · exact (hw.no c).elim
  · exact absurd ⟨(t1 k hk).mp g1, (t2 k hk).mp g2⟩ (h k hk ek)
  · have := nI_same ek ek' (by omega) (by omega)
    subst this
    rcases hbad with c | c | c
    · exact (hu.no c).elim
    · exact (hv.no c).elim
    · exact (hw.no c).elim
  · have := nI_same ek ek' (by omega) (by omega)
    subst this
    have e1 := hu.one hu'
    have e2 := hv.one hv'
    have e3 := hw.one hw'
    subst e1 e2 e3
    exact ⟨rfl, hC0.fM g (by simp) (by simp)⟩
end OpHolds
