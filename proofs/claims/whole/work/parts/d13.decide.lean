/-! ===== what is decided of a question, is decided once ===== -/
section DecP
variable {b rc : Nat} {R R' : Nat → Mc} {D : Nat → PD} {Ms Ms' : Nat → Mc}
theorem tz_eq {st st' : Nat → Nat → Nat} {n L : Nat} {lf : Nat → Nat} (hb : 0 < b) (hc : ∀ i, i < n → ∀ g, g < b → st i g < n) (he : ∀ i, i < n → ∀ g, g < b → st i g = st' i g) (hlf : ∀ g, lf g + L < (L + 1) * b) : ∀ (u : List Nat) (P P' : Nat → Nat), (∀ j, j ≤ L → P j = P' j ∧ P j < n) → ∀ j, j ≤ L → tz st b lf P u j = tz st' b lf P' u j
  | [], P, P', h, j, hj => (h j hj).1
  | g :: u, P, P', h, j, hj => tz_eq hb hc he hlf u _ _ (fun j hj => by
      have hlg := hlf g
      have h1 : (lf g + j) / b < L + 1 := Nat.div_lt_of_lt_mul (by rw [Nat.mul_comm]; omega)
      obtain ⟨e1, e2⟩ := h ((lf g + j) / b) (by omega)
      refine ⟨?_, hc _ e2 _ (Nat.mod_lt _ hb)⟩
      show st (P ((lf g + j) / b)) ((lf g + j) % b) = st' (P' ((lf g + j) / b)) ((lf g + j) % b)
      rw [← e1]
      exact he _ e2 _ (Nat.mod_lt _ hb)) j hj
theorem letB_eq {r : Nat} {S : SD} (hb : b = 2 ∨ b = 3) (h : SWf R rc S) (hr : s_r S = some r) (hg : RowG b (R r)) (hm : meq b (R r) (R' r)) (u : List Nat) : letB b R r S u = letB b R' r S u := by
  obtain ⟨⟨β, hcan⟩, g2, g3, g4⟩ := hg
  obtain ⟨k1, k2, k3, k4⟩ := h.num hb hr hcan.1 g2
  have hl : ∀ g, ldn b (s_s S) (s_t S) g + max (sumT (s_t S) 8 - 1) (s_n S) < (max (sumT (s_t S) 8 - 1) (s_n S) + 1) * b := fun g => by
    have := (ldn_le (al := s_s S) (tf := s_t S) (g := g) hb).2
    have h2 := (h r hr).2.2.1
    have h3 : sumT (s_t S) 8 ≤ max (sumT (s_t S) 8 - 1) (s_n S) + 1 := by omega
    generalize ldn b (s_s S) (s_t S) g = y at this ⊢
    generalize max (sumT (s_t S) 8 - 1) (s_n S) = L at h3 ⊢
    rcases hb with rfl | rfl <;> omega
  have h0 : ∀ j, j ≤ max (sumT (s_t S) 8 - 1) (s_n S) → tp0 (m_s (R r)) b j = tp0 (m_s (R' r)) b j ∧ tp0 (m_s (R r)) b j < m_n (R r) := fun j hj => by
    have hj1 : j / b < b := by
      rcases hb with rfl | rfl <;> omega
    have hj2 : j % b < b := Nat.mod_lt _ (by omega)
    have c1 := hcan.2.1 0 hcan.1 _ hj1
    refine ⟨?_, hcan.2.1 _ c1 _ hj2⟩
    show m_s (R r) (m_s (R r) 0 (j / b)) (j % b) = m_s (R' r) (m_s (R' r) 0 (j / b)) (j % b)
    rw [← (hm.2 0 hcan.1).2 _ hj1, (hm.2 _ c1).2 _ hj2]
  have e := tz_eq (b := b) (st := m_s (R r)) (st' := m_s (R' r)) (n := m_n (R r)) (L := max (sumT (s_t S) 8 - 1) (s_n S)) (lf := ldn b (s_s S) (s_t S)) (by omega) hcan.2.1 (fun i hi g hg => (hm.2 i hi).2 g hg) hl u (tp0 (m_s (R r)) b) (tp0 (m_s (R' r)) b) h0 (s_n S) (by omega)
  have l := tz_lt (b := b) (st := m_s (R r)) (n := m_n (R r)) (L := max (sumT (s_t S) 8 - 1) (s_n S)) (lf := ldn b (s_s S) (s_t S)) (by omega) hcan.2.1 hl u (tp0 (m_s (R r)) b) (fun j hj => (h0 j hj).2) (s_n S) (by omega)
  show m_k (R r) (tz (m_s (R r)) b _ _ u (s_n S)) = m_k (R' r) (tz (m_s (R' r)) b _ _ u (s_n S))
  rw [← e]
  exact (hm.2 _ l).1
theorem SWf.cong {S : SD} (h : SWf R rc S) (hm : ∀ r, r < rc → m_n (R r) = m_n (R' r)) : SWf R' rc S := by
  intro r hr
  obtain ⟨h1, h2, h3, h4, h5, h6, h7, h8⟩ := h r hr
  exact ⟨h1, h2, h3, h4, h5, h6, h7, by rw [← hm r h1]; exact h8⟩
theorem PWf.cong {i : Nat} (h : PWf R rc D i) (hm : ∀ r, r < rc → m_n (R r) = m_n (R' r)) : PWf R' rc D i := by
  obtain ⟨h1, h2, h3, h4, h5, h6⟩ := h
  exact ⟨h1, h2, h3, h4, fun q => ⟨(h5 q).1, (h5 q).2.1.cong hm, (h5 q).2.2.1.cong hm, (h5 q).2.2.2⟩, h6⟩
theorem meq.rf {f : Nat} {m : Mc} : meq f m m := ⟨rfl, fun i hi => ⟨rfl, fun g hg => rfl⟩⟩
theorem meq.sm {f : Nat} {m m' : Mc} (h : meq f m m') : meq f m' m := ⟨h.1.symm, fun i hi => ⟨((h.2 i (by rw [h.1]; exact hi)).1).symm, fun g hg => ((h.2 i (by rw [h.1]; exact hi)).2 g hg).symm⟩⟩
theorem meq.tr {f : Nat} {m m' m'' : Mc} (h : meq f m m') (g : meq f m' m'') : meq f m m'' := ⟨h.1.trans g.1, fun i hi => ⟨(h.2 i hi).1.trans (g.2 i (by rw [← h.1]; exact hi)).1, fun d hd => ((h.2 i hi).2 d hd).trans ((g.2 i (by rw [← h.1]; exact hi)).2 d hd)⟩⟩
/-- one part: the two specifications agree -/
theorem dec_one {i : Nat} {r r' : Option Mc} (hb : b = 2 ∨ b = 3) (hwf : PWf R rc D i) (hrow : ∀ q, q < rc → RowG b (R q) ∧ meq b (R q) (R' q)) (hM : ∀ j, j < i → MsOK b D Ms j ∧ meq (fn b (p_s (D j))) (Ms j) (Ms' j)) (h : PSpec b R D Ms i r) (h' : PSpec b R' D Ms' i r') : req (fn b (p_s (D i))) r r' := by
  obtain ⟨w1, w2, w3, w4, w5, w6, w7, w8, w9⟩ := hwf
  refine PSpec.one (by omega) w3 (fun _ => trivial) (fun q u s hq hs hf hu => ?_) (fun hf => (w5 hf).1) (fun g => vw_lt (by omega)) (fun hf => hM _ (w6 hf)) (fun hf => hM _ (w8 hf).1) w7 h h'
  obtain ⟨-, sA, sB, -⟩ := w5 hf
  rcases hs with rfl | rfl
  · obtain ⟨g1, g2⟩ := hrow q (sA q hq).1
    exact letB_eq hb sA hq g1 g2 u
  · obtain ⟨g1, g2⟩ := hrow q (sB q hq).1
    exact letB_eq hb sB hq g1 g2 u
theorem dec_upto {cnt : Nat} (hb : b = 2 ∨ b = 3) (hwf : ∀ j, j < cnt → PWf R rc D j) (hrow : ∀ q, q < rc → RowG b (R q) ∧ meq b (R q) (R' q)) : ∀ k, k ≤ cnt → PUpto b R D Ms k → PUpto b R' D Ms' k → ∀ j, j < k → MsOK b D Ms j ∧ meq (fn b (p_s (D j))) (Ms j) (Ms' j) := by
  intro k hk h h' j
  induction j using Nat.strongRecOn with
  | ind j ih =>
    intro hj
    have hprev : ∀ i, i < j → MsOK b D Ms i ∧ meq (fn b (p_s (D i))) (Ms i) (Ms' i) := fun i hi => ih i hi (by omega)
    refine ⟨PSpec.ok (by omega) (hwf j (by omega)) (fun i hi => (hprev i hi).1) (h j hj), ?_⟩
    rcases dec_one hb (hwf j (by omega)) hrow hprev (h j hj) (h' j hj) with ⟨e, -⟩ | ⟨m1, m2, e1, e2, e3⟩
    · cases e
    · cases e1
      cases e2
      exact e3
/-- where it is spent, if it is -/
def DecO (b : Nat) (R : Nat → Mc) (D : Nat → PD) (cnt : Nat) : Option Nat → (Nat → Mc) → Prop
  | some k, Ms => k < cnt ∧ PUpto b R D Ms k ∧ PSpec b R D Ms k none
  | none, Ms => PUpto b R D Ms cnt
theorem dec_same {cnt : Nat} {k k' : Option Nat} (hb : b = 2 ∨ b = 3) (hwf : ∀ j, j < cnt → PWf R rc D j) (hrow : ∀ q, q < rc → RowG b (R q) ∧ meq b (R q) (R' q)) (h : DecO b R D cnt k Ms) (h' : DecO b R' D cnt k' Ms') : k = k' ∧ (k = none → ∀ j, j < cnt → MsOK b D Ms j ∧ meq (fn b (p_s (D j))) (Ms j) (Ms' j)) := by
  have clash : ∀ i, i < cnt → PUpto b R D Ms i → PUpto b R' D Ms' i → ∀ r r', PSpec b R D Ms i r → PSpec b R' D Ms' i r' → req (fn b (p_s (D i))) r r' := fun i hi u u' r r' p p' =>
    dec_one hb (hwf i hi) hrow (dec_upto hb hwf hrow i (by omega) u u') p p'
  have up : ∀ {R : Nat → Mc} {Ms : Nat → Mc} {i j : Nat}, PUpto b R D Ms j → i ≤ j → PUpto b R D Ms i := fun u h x hx => u x (by omega)
  cases k with
  | none =>
    cases k' with
    | none => exact ⟨rfl, fun _ => dec_upto hb hwf hrow cnt (Nat.le_refl _) h h'⟩
    | some k' =>
      obtain ⟨h1, h2, h3⟩ := h'
      rcases clash k' h1 (up h (by omega)) h2 _ _ (h k' h1) h3 with ⟨e, -⟩ | ⟨m1, m2, e1, e2, e3⟩
      · cases e
      · cases e2
  | some k =>
    obtain ⟨h1, h2, h3⟩ := h
    cases k' with
    | none =>
      rcases clash k h1 h2 (up h' (by omega)) _ _ h3 (h' k h1) with ⟨-, e⟩ | ⟨m1, m2, e1, e2, e3⟩
      · cases e
      · cases e1
    | some k' =>
      obtain ⟨g1, g2, g3⟩ := h'
      refine ⟨?_, fun e => (by cases e)⟩
      rcases Nat.lt_trichotomy k k' with c | c | c
      · exfalso
        rcases clash k h1 h2 (up g2 (by omega)) _ _ h3 (g2 k c) with ⟨-, e⟩ | ⟨m1, m2, e1, e2, e3⟩
        · cases e
        · cases e1
      · rw [c]
      · exfalso
        rcases clash k' g1 (up h2 (by omega)) g2 _ _ (h2 k' c) g3 with ⟨e, -⟩ | ⟨m1, m2, e1, e2, e3⟩
        · cases e
        · cases e2
end DecP
