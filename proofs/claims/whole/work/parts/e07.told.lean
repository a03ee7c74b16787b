/-! ===== both alike: told, alike ===== -/
section OpTold
variable {G : GG} {M M' : Mem} {e m o b : Nat} {S : Sg} {R K : Nat → Mc} {Q : Option Value → Mem → Prop}
/-- the so-manyth name -/
def fnm (x : Nat) : Nat → Nat → Nat → Int32
  | 0, _, _ => -1
  | r + 1, i, k => if bt x i = 0 then fnm x r (i + 1) k else if k = 0 then nI i else fnm x r (i + 1) (k - 1)
theorem w_free (d : Nat) {q x k0 : Nat} (hq : (x_h M q).1 = 20) (h4 : x_i M q 4 = nI x) (hx : x < 256) (hk0 : k0 < 100) (hQ : Q (some (.int (fnm x 8 0 k0))) M) : Call G (d + 1) 0 0 mX4_freeName [.ref q, .int (nI k0)] M Q := by
  have loop : ∀ r i c, r + i = 8 → c ≤ k0 → Q (some (.int (fnm x r i (k0 - c)))) M → LX4_freeName_4 G d 0 0 q (nI k0) (nI c) (nI i) M Q := by
    intro r
    induction r with
    | zero =>
      intro i c hi hc hQ
      refine vX4_freeName_4 _ _ _ _ ⟨fun _ => hQ, fun q => absurd ?_ q⟩
      rw [show (8 : Int32) = nI 8 from rfl, nI_leI (by omega) (by omega)]
      omega
    | succ r ih =>
      intro i c hi hc hQ
      refine vX4_freeName_4 _ _ _ _ ⟨fun q => ?_, fun _ => ⟨hq, ?_⟩⟩
      · rw [show (8 : Int32) = nI 8 from rfl, nI_leI (by omega) (by omega)] at q
        omega
      rw [h4, sb (by omega) (by omega), nI_1, nI_1, nI_eq (by omega) (by omega)]
      refine ⟨fun z => ih (i + 1) c (by omega) hc ?_, fun z => ⟨fun z2 => ih (i + 1) (c + 1) (by omega) (by omega) ?_, fun z2 => ?_⟩⟩
      · rw [sb0] at z
        rw [fnm, if_pos z] at hQ
        exact hQ
      · have z' : ¬ bt x i = 0 := fun c => z (sb0.mpr c)
        rw [fnm, if_neg z', if_neg (by omega)] at hQ
        rw [show k0 - (c + 1) = k0 - c - 1 by omega]
        exact hQ
      · have z' : ¬ bt x i = 0 := fun c => z (sb0.mpr c)
        rw [fnm, if_neg z', if_pos (by omega)] at hQ
        exact hQ
  exact eX4_freeName q _ (loop 8 0 0 (by omega) (by omega) hQ)
theorem ur_nameOf8 (d : Nat) {x k0 : Nat} (hx : x < 256) (hk0 : k0 < 100) (hQ : Q (some (.int (fnm x 8 0 k0))) M) : Call G (d + 1) 0 0 mX12_nameOf [.int (nI x), .int (nI k0)] M Q := by
  have loop : ∀ r i k, r + i = 8 → k < 100 → Q (some (.int (fnm x r i k))) M → LX12_nameOf_4 G d 0 0 (nI x) (nI k0) (nI k) (nI i) M Q := by
    intro r
    induction r with
    | zero =>
      intro i k hi hk hQ
      refine vX12_nameOf_4 _ _ _ _ ⟨fun _ => hQ, fun q => absurd ?_ q⟩
      rw [show (8 : Int32) = nI 8 from rfl, nI_leI (by omega) (by omega)]
      omega
    | succ r ih =>
      intro i k hi hk hQ
      refine vX12_nameOf_4 _ _ _ _ ⟨fun q => ?_, fun _ => ?_⟩
      · rw [show (8 : Int32) = nI 8 from rfl, nI_leI (by omega) (by omega)] at q
        omega
      rw [sb (by omega) (by omega), nI_1]
      refine ⟨fun z => ih (i + 1) k (by omega) hk ?_, fun z => ?_⟩
      · have z' : bt x i = 0 := by
          have := bt_le (x := x) (n := i)
          have : ¬ bt x i = 1 := fun c => z (sb1.mpr c)
          omega
        rw [fnm, if_pos z'] at hQ
        exact hQ
      rw [sb1] at z
      rw [fnm, if_neg (by omega)] at hQ
      rw [show (0 : Int32) = nI 0 from rfl, nI_eq (by omega) (by omega)]
      refine ⟨fun z2 => ?_, fun z2 => ?_⟩
      · rw [if_neg z2] at hQ
        have ek : nI k + (-1) = nI (k - 1) := by
          show iI (k : Int) + iI (-1) = iI ((k - 1 : Nat) : Int)
          rw [iI_add]
          congr 1
          omega
        rw [ek]
        exact ih (i + 1) (k - 1) (by omega) (by omega) hQ
      · rw [if_pos z2] at hQ
        exact hQ
  exact eX12_nameOf _ _ (loop 8 0 k0 (by omega) hk0 hQ)
/-- what a question tells -/
def toldV (q : Qd) (n : Nat) (y : Int32) : Int32 :=
  if y = 0 then nI (qd_f q) else if y = 1 then nbI (qd_p q) else if y = 2 then nbI (qd_s q) else
  if qd_f q = 0 then (if y = 3 then nI (pc (qd_n q)) else if y = 7 then nI (qd_k q) else if y = 8 then (if qd_s q = none then nI n else -2) else fnm (qd_n q) 8 0 (y.toInt.toNat - 4)) else -2
theorem y9_cases {y : Int32} (h1 : ¬ y < 0) (h2 : y ≤ 8) : y = 0 ∨ y = 1 ∨ y = 2 ∨ y = 3 ∨ y = 4 ∨ y = 5 ∨ y = 6 ∨ y = 7 ∨ y = 8 := by
  rw [Int32.lt_iff_toInt_lt] at h1
  rw [Int32.le_iff_toInt_le] at h2
  have h0 : (0 : Int32).toInt = 0 := rfl
  have h8 : (8 : Int32).toInt = 8 := rfl
  obtain ⟨k, hk, rfl⟩ := nI_ofInt (x := y) (n := 9) (by omega) (by omega) (by omega)
  have : k = 0 ∨ k = 1 ∨ k = 2 ∨ k = 3 ∨ k = 4 ∨ k = 5 ∨ k = 6 ∨ k = 7 ∨ k = 8 := by omega
  rcases this with rfl | rfl | rfl | rfl | rfl | rfl | rfl | rfl | rfl
  · exact Or.inl rfl
  · exact Or.inr (Or.inl rfl)
  · exact Or.inr (Or.inr (Or.inl rfl))
  · exact Or.inr (Or.inr (Or.inr (Or.inl rfl)))
  · exact Or.inr (Or.inr (Or.inr (Or.inr (Or.inl rfl))))
  · exact Or.inr (Or.inr (Or.inr (Or.inr (Or.inr (Or.inl rfl)))))
  · exact Or.inr (Or.inr (Or.inr (Or.inr (Or.inr (Or.inr (Or.inl rfl))))))
  · exact Or.inr (Or.inr (Or.inr (Or.inr (Or.inr (Or.inr (Or.inr (Or.inl rfl)))))))
  · exact Or.inr (Or.inr (Or.inr (Or.inr (Or.inr (Or.inr (Or.inr (Or.inr rfl)))))))
theorem w_told (d : Nat) (hS : CoS M e) (hW : SgW S) (hB : CoB M e S) (hQu : CoQ M e S K) {x y : Int32}
    (hQ0 : ((∀ k, k < y_qc S → x ≠ nI k) ∨ y < 0 ∨ ¬ y ≤ 8) → Q (some (.int (-1))) M)
    (hQ1 : ∀ k, k < y_qc S → x = nI k → ¬ y < 0 → y ≤ 8 → Q (some (.int (toldV (y_q S k) (m_n (K k)) y))) M) : Call G (d + 4) 0 0 mX11_told [.ref e, .int x, .int y] M Q := by
  obtain ⟨a1, a2, a3, a4, a5, a6, a7, a8, a9, a10, a11, a12, b1, b2, -⟩ := hS
  have hqc := hW.2.2.2.2.2.2.1
  refine eX11_told e x y ⟨a1, ?_⟩
  rw [hB.2.2.1]
  refine w_in0 (d + 2) (by omega) (fun h => ⟨0, rfl, fun _ => hQ0 (Or.inl h), fun c => absurd rfl c⟩) (fun k hk ek => ⟨1, rfl, fun c => absurd c (by decide), fun _ => ⟨fun c => hQ0 (Or.inr (Or.inl c)), fun n1 => ⟨fun n2 => ?_, fun c => hQ0 (Or.inr (Or.inr c))⟩⟩⟩)
  obtain ⟨hr, s1, s2, s3⟩ := b2.2 k (by omega)
  obtain ⟨h1, h2, h3, h4, h5⟩ := hQu k hk
  obtain ⟨w1, w2, w3, w4⟩ := hW.2.2.2.2.2.2.2.1 k hk
  have hq1 := hQ1 k hk ek n1 n2
  have hz : x_i M (e + 540 + 8 * k) 1 = 0 ↔ qd_f (y_q S k) = 0 := (ask_c hW hQu hk).1
  have hs : x_i M (e + 540 + 8 * k) 3 = -1 ↔ qd_s (y_q S k) = none := (ask_c hW hQu hk).2
  refine ⟨a1, e + 2, a3, by rw [b2.1]; exact ⟨by decide, by decide⟩, by rw [ek, b2.1]; exact vp_in_nI (show k < 10 by omega) (by omega), e + 540 + 8 * k, by rw [ek, nI_clamp (by omega)]; exact hr, fun c => ⟨s1, ?_⟩, fun c => ⟨s1, ?_⟩, fun c => ⟨s1, ?_⟩, fun ⟨c0, c1, c2⟩ => ⟨s1, fun z => ?_, fun z => ?_⟩⟩
  · subst c
    rw [h1]
    exact hq1
  · subst c
    rw [h2]
    exact hq1
  · subst c
    rw [h3]
    exact hq1
  · have z' := hz.mp z
    unfold toldV at hq1
    rw [if_neg c0, if_neg c1, if_neg c2, if_pos z'] at hq1
    refine eX4_more (d := d + 2) _ y ⟨fun c3 => ⟨fun c7 => ⟨fun c8 => ⟨s1, ?_⟩, fun c8 => ⟨s1, fun zs => ⟨e + 540 + 8 * k + 1, s2, s3.1, _, rfl, ?_⟩, fun zs => ⟨_, rfl, ?_⟩⟩⟩, fun c7 => ⟨s1, _, rfl, ?_⟩⟩, fun c3 => ⟨s1, ?_⟩⟩
    · rw [if_neg c3, if_neg c7, if_neg c8] at hq1
      have : y = 4 ∨ y = 5 ∨ y = 6 := by
        rcases y9_cases n1 n2 with h | h | h | h | h | h | h | h | h
        · exact absurd h c0
        · exact absurd h c1
        · exact absurd h c2
        · exact absurd h c3
        · exact Or.inl h
        · exact Or.inr (Or.inl h)
        · exact Or.inr (Or.inr h)
        · exact absurd h c7
        · exact absurd h c8
      have key : ∀ k0, k0 < 100 → y - 4 = nI k0 → y.toInt.toNat - 4 = k0 → Call G (d + 2) 0 0 mX4_freeName [.ref (e + 540 + 8 * k), .int (y - 4)] M (fun r5 M6 => ∃ v7 : Int32, r5 = some (.int v7) ∧ ∃ v8 : Int32, (some (.int v7) : Option Value) = some (.int v8) ∧ Q (some (.int v8)) M6) := fun k0 hk0 ey et => by
        rw [ey]
        rw [et] at hq1
        exact w_free (d + 1) s1 (h4 z').1 (w4 z').1 hk0 ⟨_, rfl, _, rfl, hq1⟩
      rcases this with h | h | h
      · subst h; exact key 0 (by omega) rfl rfl
      · subst h; exact key 1 (by omega) rfl rfl
      · subst h; exact key 2 (by omega) rfl rfl
    · subst c8
      rw [if_neg (by decide), if_neg (by decide), if_pos rfl, if_pos (hs.mp zs)] at hq1
      rw [(h5 z' (hs.mp zs)).1]
      exact hq1
    · subst c8
      rw [if_neg (by decide), if_neg (by decide), if_pos rfl, if_neg (fun c => zs (hs.mpr c))] at hq1
      exact hq1
    · subst c7
      rw [if_neg (by decide), if_pos rfl] at hq1
      rw [(h4 z').2.1]
      exact hq1
    · subst c3
      rw [if_pos rfl] at hq1
      rw [(h4 z').1]
      exact w_bitCount (d + 1) (w4 z').1 ⟨_, rfl, _, rfl, hq1⟩
  · unfold toldV at hq1
    rw [if_neg c0, if_neg c1, if_neg c2, if_neg (fun c => z (hz.mpr c))] at hq1
    exact hq1
theorem ur_told (d : Nat) (hS : ReS M m) (hW : SgW S) (hB : ReB M m S) (hQu : ReQs M m S K) {x y : Int32}
    (hQ0 : ((∀ k, k < y_qc S → x ≠ nI k) ∨ y < 0 ∨ ¬ y ≤ 8) → Q (some (.int (-1))) M)
    (hQ1 : ∀ k, k < y_qc S → x = nI k → ¬ y < 0 → y ≤ 8 → Q (some (.int (toldV (y_q S k) (m_n (K k)) y))) M) : Call G (d + 4) 0 0 mX12_told [.ref m, .int x, .int y] M Q := by
  have hqc := hW.2.2.2.2.2.2.1
  refine eX12_told m x y ⟨hS.1, ?_⟩
  rw [hB.2.2.1]
  refine ur_in0 (d + 2) (by omega) (fun h => ⟨0, rfl, fun _ => hQ0 (Or.inl h), fun c => absurd rfl c⟩) (fun k hk ek => ⟨1, rfl, fun c => absurd c (by decide), fun _ => ?_⟩)
  have h9 : ∀ j, j < 9 → ¬ nI j < 0 ∧ nI j ≤ 8 := by decide
  show Call G (d + 3) 0 0 mX12_in [.int y, .int 0, .int (nI 9 - 1)] M _
  refine ur_in0 (d + 2) (by omega) (fun h => ⟨0, rfl, fun c => absurd rfl c, fun _ => hQ0 (Or.inr ?_)⟩) (fun j hj ej => ⟨1, rfl, fun _ => ?_, fun c => absurd c (by decide)⟩)
  · by_cases n1 : y < 0
    · exact Or.inl n1
    · by_cases n2 : y ≤ 8
      · exfalso
        rcases y9_cases n1 n2 with c | c | c | c | c | c | c | c | c
        · exact h 0 (by omega) c
        · exact h 1 (by omega) c
        · exact h 2 (by omega) c
        · exact h 3 (by omega) c
        · exact h 4 (by omega) c
        · exact h 5 (by omega) c
        · exact h 6 (by omega) c
        · exact h 7 (by omega) c
        · exact h 8 (by omega) c
      · exact Or.inr n2
  obtain ⟨n1, n2⟩ := h9 j hj
  rw [← ej] at n1 n2
  obtain ⟨h1, h2, h3, h4, h5⟩ := hQu k hk
  obtain ⟨w1, w2, w3, w4⟩ := hW.2.2.2.2.2.2.2.1 k hk
  have hq1 := hQ1 k hk ek n1 n2
  have hz : x_i M (m + 6) k = 0 ↔ qd_f (y_q S k) = 0 := (ask_r hW hQu hk).1
  have hs : x_i M (m + 8) k = -1 ↔ qd_s (y_q S k) = none := (ask_r hW hQu hk).2
  have hk10 : k < 10 := by omega
  have hcl : x.toNatClampNeg = k := by rw [ek, nI_clamp (by omega)]
  have hin : vp_in x 10 := by rw [ek]; exact vp_in_nI hk10 (by omega)
  have g2y : (2 : Int32) ≤ y ↔ ¬ y = 0 ∧ ¬ y = 1 := by
    have : ∀ j, j < 9 → ((2 : Int32) ≤ nI j ↔ ¬ nI j = 0 ∧ ¬ nI j = 1) := by decide
    rw [ej]
    exact this j hj
  rw [hcl]
  refine ⟨fun g2 => ⟨fun c2 => ⟨hS.1, m + 6, hS.r6, by rw [hS.h6], by rw [hS.h6]; exact hin, fun z => ?_, fun z => ?_⟩, fun c2 => ⟨hS.1, m + 8, hS.r8, by rw [hS.h8], by rw [hS.h8]; exact hin, ?_⟩⟩, fun g2 => ⟨fun c0 => ⟨hS.1, m + 7, hS.r7, by rw [hS.h7], by rw [hS.h7]; exact hin, ?_⟩, fun c0 => ⟨hS.1, m + 6, hS.r6, by rw [hS.h6], by rw [hS.h6]; exact hin, ?_⟩⟩⟩
  · obtain ⟨c0, c1⟩ := g2y.mp g2
    have z' := hz.mp z
    unfold toldV at hq1
    rw [if_neg c0, if_neg c1, if_neg c2, if_pos z'] at hq1
    refine ⟨fun c7 => ⟨fun c8 => ⟨fun c3 => ⟨m + 9, hS.r9, by rw [hS.h9], by rw [hS.h9]; exact hin, ?_⟩, fun c3 => ⟨m + 9, hS.r9, by rw [hS.h9], by rw [hS.h9]; exact hin, ?_⟩⟩, fun c8 => ⟨m + 8, hS.r8, by rw [hS.h8], by rw [hS.h8]; exact hin, fun zs => ⟨m + 12, hS.r12, by rw [hS.h12], by rw [hS.h12]; exact hin, ?_⟩, fun zs => ?_⟩⟩, fun c7 => ⟨m + 10, hS.r10, by rw [hS.h10], by rw [hS.h10]; exact hin, ?_⟩⟩
    · rw [if_neg c3, if_neg c7, if_neg c8] at hq1
      have : y = 4 ∨ y = 5 ∨ y = 6 := by
        rcases y9_cases n1 n2 with h | h | h | h | h | h | h | h | h
        · exact absurd h c0
        · exact absurd h c1
        · exact absurd h c2
        · exact absurd h c3
        · exact Or.inl h
        · exact Or.inr (Or.inl h)
        · exact Or.inr (Or.inr h)
        · exact absurd h c7
        · exact absurd h c8
      rw [(h4 z').1]
      have key : ∀ k0, k0 < 100 → y - 4 = nI k0 → y.toInt.toNat - 4 = k0 → Call G (d + 3) 0 0 mX12_nameOf [.int (nI (qd_n (y_q S k))), .int (y - 4)] M (fun r5 M6 => ∃ v7 : Int32, r5 = some (.int v7) ∧ Q (some (.int v7)) M6) := fun k0 hk0 ey et => by
        rw [ey]
        rw [et] at hq1
        exact ur_nameOf8 (d + 2) (w4 z').1 hk0 ⟨_, rfl, hq1⟩
      rcases this with h | h | h
      · subst h; exact key 0 (by omega) rfl rfl
      · subst h; exact key 1 (by omega) rfl rfl
      · subst h; exact key 2 (by omega) rfl rfl
    · rw [if_pos c3] at hq1
      rw [(h4 z').1]
      exact u_bits (d + 2) (w4 z').1 ⟨_, rfl, hq1⟩
    · rw [if_neg (by rw [c8]; decide), if_neg c7, if_pos c8, if_pos (hs.mp zs)] at hq1
      rw [(h5 z' (hs.mp zs)).1]
      exact hq1
    · rw [if_neg (by rw [c8]; decide), if_neg c7, if_pos c8, if_neg (fun c => zs (hs.mpr c))] at hq1
      exact hq1
    · rw [if_neg (by rw [c7]; decide), if_pos c7] at hq1
      rw [(h4 z').2.1]
      exact hq1
  · obtain ⟨c0, c1⟩ := g2y.mp g2
    unfold toldV at hq1
    rw [if_neg c0, if_neg c1, if_neg c2, if_neg (fun c => z (hz.mpr c))] at hq1
    exact hq1
  · rw [h3]
    unfold toldV at hq1
    rw [if_neg (by rw [c2]; decide), if_neg (by rw [c2]; decide), if_pos c2] at hq1
    exact hq1
  · rw [h2]
    have c1 : y = 1 := Classical.byContradiction fun c => g2 (g2y.mpr ⟨c0, c⟩)
    unfold toldV at hq1
    rw [if_neg c0, if_pos c1] at hq1
    exact hq1
  · rw [h1]
    unfold toldV at hq1
    rw [if_pos c0] at hq1
    exact hq1
theorem op_told (d : Nat) {x y : Int32} : COp G (d + 4) e m mX11_told mX12_told [.int x, .int y] := by
  intro M hC0
  obtain ⟨hem, S, R, K, hW, hM, ⟨cS, cB, cT, cH, cR, cQ, cA⟩, ⟨rS, rB, rT, rH, rR, rQ, rA⟩⟩ := hC0.one
  have hqc := hW.2.2.2.2.2.2.1
  refine w_told d cS hW cB cQ (fun h => ⟨_, rfl, ur_told d rS hW rB rQ (fun _ => ⟨rfl, hC0⟩) (fun k hk ek n1 n2 => ?_)⟩) (fun k hk ek n1 n2 => ⟨_, rfl, ur_told d rS hW rB rQ (fun h => ?_) (fun k' hk' ek' _ _ => ?_)⟩)
  · rcases h with c | c | c
    · exact absurd ek (c k hk)
    · exact absurd c n1
    · exact absurd n2 c
  · rcases h with c | c | c
    · exact absurd ek (c k hk)
    · exact absurd c n1
    · exact absurd n2 c
  have := nI_same ek ek' (by omega) (by omega)
  subst this
  exact ⟨rfl, hC0⟩
/-! alike -/
theorem w_alike (d : Nat) (ho : (x_h M o).1 = 27) {a q0 qc : Nat} {x y : Int32} {nf : Nat → Nat} {mq : Nat → Mc} (h1 : x_r M o 1 = some a) (hqs : QusS M a q0) (hqc : x_i M o 13 = nI qc) (hq : qc ≤ 10) (hb : b = 2 ∨ b = 3) (hok : ∀ k, k < qc → x_i M (q0 + 8 * k) 1 = 0 → x_i M (q0 + 8 * k) 3 = -1 → LeI M (q0 + 8 * k + 1) (q0 + 8 * k + 2) (q0 + 8 * k + 3) (m_n (mq k)) (fn b (nf k)) (m_s (mq k)) (m_k (mq k)) ∧ QueG b (nf k) (mq k) ∧ x_i M (q0 + 8 * k) 4 = nI (nf k) ∧ nf k < 256 ∧ pc (nf k) ≤ 3 ∧ fn b (nf k) ≤ 27)
    (hQ0 : ((∀ k, k < qc → x = nI k → ¬ (x_i M (q0 + 8 * k) 1 = 0 ∧ x_i M (q0 + 8 * k) 3 = -1)) ∨ ∀ k, k < qc → y = nI k → ¬ (x_i M (q0 + 8 * k) 1 = 0 ∧ x_i M (q0 + 8 * k) 3 = -1)) → Q (some (.int (-1))) M)
    (hQ1 : ∀ i, i < qc → x = nI i → x_i M (q0 + 8 * i) 1 = 0 → x_i M (q0 + 8 * i) 3 = -1 → ∀ j, j < qc → y = nI j → x_i M (q0 + 8 * j) 1 = 0 → x_i M (q0 + 8 * j) 3 = -1 → ∀ r, r ≤ 1 → (r = 1 ↔ pc (nf i) = pc (nf j) ∧ meq (fn b (nf i)) (mq i) (mq j)) → Q (some (.int (nI r))) M) :
    Call G (d + 4) 0 0 mX11_alike [.ref o, .int x, .int y] M Q := by
  refine eX11_alike o _ _ ⟨ho, ?_⟩
  refine w_asked (d + 1) ho h1 hqs hqc hq (fun h => ⟨none, rfl, fun _ => ⟨ho, ?_⟩, fun v5 c => (by cases c)⟩) (fun i hi ei g1 g2 => ⟨some (q0 + 8 * i + 1), rfl, fun c => (by cases c), fun v5 ev => ?_⟩)
  · exact w_asked (d + 1) ho h1 hqs hqc hq (fun _ => ⟨none, rfl, fun _ => hQ0 (Or.inl h), fun v5 c => (by cases c)⟩) (fun j hj ej _ _ => ⟨some (q0 + 8 * j + 1), rfl, fun c => (by cases c), fun _ _ => hQ0 (Or.inl h)⟩)
  cases ev
  refine ⟨ho, w_asked (d + 1) ho h1 hqs hqc hq (fun h => ⟨none, rfl, fun _ => hQ0 (Or.inr h), fun v5 c => (by cases c)⟩) (fun j hj ej k1 k2 => ⟨some (q0 + 8 * j + 1), rfl, fun c => (by cases c), fun v15 ev2 => ?_⟩)⟩
  cases ev2
  have hq1 := hQ1 i hi ei g1 g2 j hj ej k1 k2
  obtain ⟨hri, s1, s2, s3⟩ := hqs.2 i (by omega)
  obtain ⟨hrj, t1, t2, t3⟩ := hqs.2 j (by omega)
  obtain ⟨oI, ⟨⟨β, oc⟩, o40, ok1, -⟩, o4, o256, o3, o27⟩ := hok i hi g1 g2
  obtain ⟨pI, ⟨⟨β', pcn⟩, p40, pk1, -⟩, p4, p256, p3, p27⟩ := hok j hj k1 k2
  have hn1 : m_n (mq i) * fn b (nf i) ≤ 1080 := Nat.mul_le_mul o40 o27
  have hn2 : m_n (mq j) * fn b (nf j) ≤ 1080 := Nat.mul_le_mul p40 p27
  refine ⟨ho, a, h1, by rw [hqs.1]; exact ⟨by decide, by decide⟩, by rw [ei, hqs.1]; exact vp_in_nI (show i < 10 by omega) (by omega), q0 + 8 * i, by rw [ei, nI_clamp (by omega)]; exact hri, s1, ?_⟩
  rw [o4]
  refine w_bitCount (d + 2) o256 ⟨_, rfl, ho, a, h1, by rw [hqs.1]; exact ⟨by decide, by decide⟩, by rw [ej, hqs.1]; exact vp_in_nI (show j < 10 by omega) (by omega), q0 + 8 * j, by rw [ej, nI_clamp (by omega)]; exact hrj, t1, ?_⟩
  rw [p4]
  refine w_bitCount (d + 2) p256 ⟨_, rfl, ?_⟩
  rw [nI_eq (by omega) (by omega)]
  refine ⟨fun c => ⟨fun _ => hq1 0 (by omega) ⟨fun z => absurd z (by decide), fun z => absurd z.1 c⟩, fun c0 => absurd rfl c0⟩, fun c => ⟨fun c0 => absurd c0 (by decide), fun _ => ⟨s3.1, ?_⟩⟩⟩
  have ef : fn b (nf i) = fn b (nf j) := by unfold fn; rw [c]
  have same : mSame (m_n (mq i)) (fn b (nf i)) (m_n (mq j)) (fn b (nf j)) (m_s (mq i)) (m_s (mq j)) (m_k (mq i)) (m_k (mq j)) ↔ meq (fn b (nf i)) (mq i) (mq j) := ⟨fun h => ⟨h.1, h.2.2⟩, fun h => ⟨h.1, ef, h.2⟩⟩
  refine Call.mono (k_isLike d s3 oI o40 hn1 t3 pI p40 hn2 (by omega) (by omega) (fun i' hi' g hg => by have := oc.2.1 i' hi' g hg; omega) (fun i' hi' g hg => by have := pcn.2.1 i' hi' g hg; omega) (fun i' hi' => by have := ok1 i' hi'; omega) (fun i' hi' => by have := pk1 i' hi'; omega)) (fun r X' h => ?_)
  obtain ⟨rfl, h⟩ := h
  rcases h with ⟨hs, rfl⟩ | ⟨hs, rfl⟩
  · exact ⟨1, rfl, fun c => absurd c (by decide), fun _ => hq1 1 (by omega) ⟨fun _ => ⟨c, same.mp hs⟩, fun _ => rfl⟩⟩
  · exact ⟨0, rfl, fun _ => hq1 0 (by omega) ⟨fun z => absurd z (by decide), fun z => absurd (same.mpr z.2) hs⟩, fun c => absurd rfl c⟩
theorem op_alike (d : Nat) {x y : Int32} : COp G (d + 4) e m mX11_alike mX12_alike [.int x, .int y] := by
  intro M hC0
  obtain ⟨hem, S, R, K, hW, hM, ⟨cS, cB, cT, cH, cR, cQ, cA⟩, ⟨rS, rB, rT, rH, rR, rQ, rA⟩⟩ := hC0.one
  obtain ⟨a1, a2, a3, a4, a5, a6, a7, a8, a9, a10, a11, a12, b1, b2, -⟩ := cS
  have hqc := hW.2.2.2.2.2.2.1
  have hb := hW.1
  have t1 : ∀ k, k < y_qc S → (x_i M (e + 540 + 8 * k) 1 = 0 ↔ x_i M (m + 6) k = 0) := fun k hk => (ask_c hW cQ hk).1.trans (ask_r hW rQ hk).1.symm
  have t2 : ∀ k, k < y_qc S → (x_i M (e + 540 + 8 * k) 3 = -1 ↔ x_i M (m + 8) k = -1) := fun k hk => (ask_c hW cQ hk).2.trans (ask_r hW rQ hk).2.symm
  have okr : ∀ k, k < y_qc S → x_i M (m + 6) k = 0 → x_i M (m + 8) k = -1 → x_i M (m + 9) k = nI (qd_n (y_q S k)) ∧ qd_n (y_q S k) < 256 ∧ fn (y_b S) (qd_n (y_q S k)) ≤ 27 ∧ ReQ M m k (fn (y_b S) (qd_n (y_q S k))) (K k) ∧ m_n (K k) ≤ 40 ∧ (∀ i, i < m_n (K k) → ∀ g, g < fn (y_b S) (qd_n (y_q S k)) → m_s (K k) i g < m_n (K k)) ∧ ∀ i, i < m_n (K k) → m_k (K k) i ≤ 1 := fun k hk g1 g2 => by
    obtain ⟨o1, ⟨⟨β, oc⟩, o40, ok1, -⟩, o3, o4, o5, o6⟩ := ok_r hW hM rQ hk g1 g2
    exact ⟨o3, o4, o6, o1, o40, oc.2.1, ok1⟩
  refine w_alike (b := y_b S) (nf := fun k => qd_n (y_q S k)) (mq := K) d a1 a3 b2 cB.2.2.1 hqc hb (fun k hk g1 g2 => ok_c hW hM cQ hk g1 g2) (fun h => ⟨_, rfl, ur_alike (b := y_b S) (nf := fun k => qd_n (y_q S k)) (d + 1) rS (by omega) (by omega) rB.1 rB.2.2.1 hqc okr (fun _ => ⟨rfl, hC0⟩) (fun i hi ei g1 g2 j hj ej k1 k2 r hr hrr => ?_)⟩) (fun i hi ei g1 g2 j hj ej k1 k2 r hr hrr => ⟨_, rfl, ur_alike (b := y_b S) (nf := fun k => qd_n (y_q S k)) (d + 1) rS (by omega) (by omega) rB.1 rB.2.2.1 hqc okr (fun h => ?_) (fun i' hi' ei' _ _ j' hj' ej' _ _ r' hr' hrr' => ?_)⟩)
  · rcases h with c | c
    · exact absurd ⟨(t1 i hi).mpr g1, (t2 i hi).mpr g2⟩ (c i hi ei)
    · exact absurd ⟨(t1 j hj).mpr k1, (t2 j hj).mpr k2⟩ (c j hj ej)
  · rcases h with c | c
    · exact absurd ⟨(t1 i hi).mp g1, (t2 i hi).mp g2⟩ (c i hi ei)
    · exact absurd ⟨(t1 j hj).mp k1, (t2 j hj).mp k2⟩ (c j hj ej)
  have := nI_same ei ei' (by omega) (by omega)
  subst this
  have := nI_same ej ej' (by omega) (by omega)
  subst this
  have : r' = r := by
    have := hrr'.trans hrr.symm
    omega
  subst this
  exact ⟨rfl, hC0⟩
end OpTold
