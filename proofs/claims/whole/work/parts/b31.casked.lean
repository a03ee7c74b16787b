/-! ===== the class: what may be asked ===== -/
section CAskedC
variable {G : GG} {M : Mem} {o b : Nat} {Q : Option Value → Mem → Prop}
/-- the questions of a court -/
def QusS (M : Mem) (a q0 : Nat) : Prop := x_h M a = (5, 10) ∧ ∀ i, i < 10 → x_r M a i = some (q0 + 8 * i) ∧ QueS M (q0 + 8 * i)
theorem QusS.eq {M' : Mem} {a q0 : Nat} (h : QusS M a q0) (h1 : x_h M' = x_h M) (h2 : x_r M' = x_r M) : QusS M' a q0 := by
  unfold QusS QueS LeS
  rw [h1, h2]
  exact h
theorem w_asked (d : Nat) (ho : (x_h M o).1 = 27) {a q0 qc : Nat} {x : Int32} (h1 : x_r M o 1 = some a) (hqs : QusS M a q0) (hqc : x_i M o 13 = nI qc) (hq : qc ≤ 10) (hQ0 : (∀ k, k < qc → x = nI k → ¬ (x_i M (q0 + 8 * k) 1 = 0 ∧ x_i M (q0 + 8 * k) 3 = -1)) → Q (some .null) M) (hQ1 : ∀ k, k < qc → x = nI k → x_i M (q0 + 8 * k) 1 = 0 → x_i M (q0 + 8 * k) 3 = -1 → Q (some (.ref (q0 + 8 * k + 1))) M) : Call G (d + 2) 0 0 mX11_asked [.ref o, .int x] M Q := by
  refine eX11_asked o x ⟨ho, ?_⟩
  rw [hqc]
  refine w_in0 d (by omega) (fun h => ⟨0, rfl, fun c => absurd rfl c, fun _ => hQ0 (fun k hk e => absurd e (h k hk))⟩) (fun k hk e => ⟨1, rfl, fun _ => ?_, fun c => absurd c (by decide)⟩)
  have one : ∀ k', k' < qc → x = nI k' → k' = k := fun k' hk' e' => by
    rw [e] at e'
    exact ((nI_eq (a := k) (b := k') (by omega) (by omega)).mp e').symm
  obtain ⟨hr, s1, s2, s3⟩ := hqs.2 k (by omega)
  refine ⟨ho, a, h1, by rw [hqs.1]; exact ⟨by decide, by decide⟩, by rw [e, hqs.1]; exact vp_in_nI (show k < 10 by omega) (by omega), q0 + 8 * k, by rw [e, nI_clamp (by omega)]; exact hr, s1, ?_⟩
  refine ⟨fun c => hQ0 (fun k' hk' e' g => c (by rw [one k' hk' e'] at g; exact g.1)), fun c => ⟨fun c2 => ⟨q0 + 8 * k + 1, s2, hQ1 k hk e c c2⟩, fun c2 => hQ0 (fun k' hk' e' g => c2 (by rw [one k' hk' e'] at g; exact g.2))⟩⟩
theorem w_askedN (d : Nat) (ho : (x_h M o).1 = 27) {a q0 qc n : Nat} {nf : Nat → Nat} {x : Int32} (h1 : x_r M o 1 = some a) (hqs : QusS M a q0) (hqc : x_i M o 13 = nI qc) (hq : qc ≤ 10) (hn : n ≤ 8) (hnf : ∀ k, k < qc → x_i M (q0 + 8 * k) 1 = 0 → x_i M (q0 + 8 * k) 3 = -1 → x_i M (q0 + 8 * k) 4 = nI (nf k) ∧ nf k < 256) (hQ0 : (∀ k, k < qc → x = nI k → ¬ (x_i M (q0 + 8 * k) 1 = 0 ∧ x_i M (q0 + 8 * k) 3 = -1 ∧ pc (nf k) = n)) → Q (some .null) M) (hQ1 : ∀ k, k < qc → x = nI k → x_i M (q0 + 8 * k) 1 = 0 → x_i M (q0 + 8 * k) 3 = -1 → pc (nf k) = n → Q (some (.ref (q0 + 8 * k + 1))) M) : Call G (d + 3) 0 0 mX11_askedOf [.ref o, .int x, .int (nI n)] M Q := by
  refine eX11_askedOf o x _ ⟨ho, ?_⟩
  refine w_asked d ho h1 hqs hqc hq (fun h => ⟨none, rfl, fun _ => hQ0 (fun k hk e g => h k hk e ⟨g.1, g.2.1⟩), fun v5 e => (by cases e)⟩) (fun k hk e g1 g2 => ⟨some (q0 + 8 * k + 1), rfl, fun c => (by cases c), fun v5 ev => ?_⟩)
  cases ev
  obtain ⟨h3, h4⟩ := hnf k hk g1 g2
  have hp := pc_le (nf k)
  obtain ⟨hr, s1, s2, s3⟩ := hqs.2 k (by omega)
  refine ⟨ho, a, h1, by rw [hqs.1]; exact ⟨by decide, by decide⟩, by rw [e, hqs.1]; exact vp_in_nI (show k < 10 by omega) (by omega), q0 + 8 * k, by rw [e, nI_clamp (by omega)]; exact hr, s1, ?_⟩
  rw [h3]
  refine w_bitCount (d + 1) h4 ⟨_, rfl, ?_⟩
  rw [nI_eq (by omega) (by omega)]
  refine ⟨fun c => hQ0 (fun k' hk' e' g => c ?_), fun c => hQ1 k hk e g1 g2 c⟩
  rw [e] at e'
  rw [(nI_eq (a := k) (b := k') (by omega) (by omega)).mp e']
  exact g.2.2
end CAskedC
