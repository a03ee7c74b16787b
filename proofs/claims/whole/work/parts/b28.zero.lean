/-! ===== noughts ahead leave a least machine where it begins ===== -/
section ZeroC
variable {b : Nat}
theorem can_00 {f : Nat} {m : Mc} {β : List Nat → Nat} (hf : 0 < f) (h : mcan f m β) (hz : ∀ u, wd f u → β (0 :: u) = β u) : m_s m 0 0 = 0 := by
  obtain ⟨c1, c2, c3, c4, c5⟩ := h
  refine c4 _ 0 (c2 0 c1 0 hf) c1 (fun w hw => ?_)
  have h1 := c3 (0 :: w) (wd_cons hf hw)
  have h2 := c3 w hw
  exact (h1.trans (hz w hw)).trans h2.symm
theorem vs_0 {al sm : Nat} : ∀ j, vs b al sm 0 j = 0
  | 0 => rfl
  | j + 1 => by
    show (if bt sm (7 - j) = 1 then vs b al sm 0 j + 0 / b ^ ab al j % b * b ^ ab sm j else vs b al sm 0 j) = 0
    rw [vs_0 j, Nat.zero_div, Nat.zero_mod, Nat.zero_mul]
    split <;> rfl
theorem vw_0 {al sm : Nat} : vw b al sm 0 = 0 := vs_0 8
theorem ls_0 {al : Nat} {tf : Nat → Int} : ∀ j, ls b al tf 0 j = 0
  | 0 => rfl
  | j + 1 => by
    show (if bt al (7 - j) = 1 then ls b al tf 0 j + tf (7 - j) * ((0 / b ^ ab al j % b : Nat) : Int) else ls b al tf 0 j) = 0
    rw [ls_0 j, Nat.zero_div, Nat.zero_mod]
    split <;> simp
theorem m_b0 {m : Mc} (h : m_s m 0 0 = 0) (u : List Nat) : m_b m (0 :: u) = m_b m u := by
  show m_k m (rn (m_s m) (m_s m 0 0) u) = _
  rw [h]
  rfl
theorem sumB_0 {P : PD} (u : List Nat) : sumB b P (0 :: u) = sumB b P u := by
  have e : smZ b (p_s P) (fun n => (s_t (p_a P) n : Int) - (s_t (p_b P) n : Int)) 0 0 = 0 := by
    show (b : Int) * 0 + ls b (p_s P) _ 0 8 = 0
    rw [ls_0]
    omega
  show cmpI _ (dz _ (smZ b (p_s P) (fun n => (s_t (p_a P) n : Int) - (s_t (p_b P) n : Int)) 0 0) u + _) = _
  rw [e]
  rfl
theorem tz_congr {st : Nat → Nat → Nat} {L : Nat} {lf : Nat → Nat} (hlf : ∀ g, lf g + L < (L + 1) * b) : ∀ (u : List Nat) (P P' : Nat → Nat), (∀ j, j ≤ L → P j = P' j) → ∀ j, j ≤ L → tz st b lf P u j = tz st b lf P' u j
  | [], P, P', h, j, hj => h j hj
  | g :: u, P, P', h, j, hj => tz_congr hlf u _ _ (fun j hj => by
      have hlg := hlf g
      have h1 : (lf g + j) / b < L + 1 := Nat.div_lt_of_lt_mul (by rw [Nat.mul_comm]; omega)
      show st (P ((lf g + j) / b)) _ = st (P' ((lf g + j) / b)) _
      rw [h _ (by omega)]) j hj
theorem letB_0 {R : Nat → Mc} {rc r : Nat} {S : SD} (hb : b = 2 ∨ b = 3) (h : SWf R rc S) (hr : s_r S = Option.some r) (hg : RowG b (R r)) (u : List Nat) : letB b R r S (0 :: u) = letB b R r S u := by
  obtain ⟨⟨β, hcan⟩, g2, g3, g4⟩ := hg
  obtain ⟨k1, k2, k3, k4⟩ := h.num hb hr hcan.1 g2
  obtain ⟨w1, w2, w3, w4, w5, w6, w7, w8⟩ := h r hr
  have hlf : ∀ g, ldn b (s_s S) (s_t S) g + max (sumT (s_t S) 8 - 1) (s_n S) < (max (sumT (s_t S) 8 - 1) (s_n S) + 1) * b := fun g => by
    have := (ldn_le (al := s_s S) (tf := s_t S) (g := g) hb).2
    have h2 : sumT (s_t S) 8 ≤ max (sumT (s_t S) 8 - 1) (s_n S) + 1 := by omega
    generalize ldn b (s_s S) (s_t S) g = y at this ⊢
    generalize max (sumT (s_t S) 8 - 1) (s_n S) = L at h2 ⊢
    rcases hb with rfl | rfl <;> omega
  have hl0 : ldn b (s_s S) (s_t S) 0 = 0 := by
    show (ls b (s_s S) (fun n => (s_t S n : Int)) 0 8).toNat = 0
    rw [ls_0]
    rfl
  show m_k (R r) (tz (m_s (R r)) b (ldn b (s_s S) (s_t S)) (tpD (m_s (R r)) b (tp0 (m_s (R r)) b) (ldn b (s_s S) (s_t S) 0)) u (s_n S)) = m_k (R r) (tz (m_s (R r)) b (ldn b (s_s S) (s_t S)) (tp0 (m_s (R r)) b) u (s_n S))
  rw [tz_congr (L := max (sumT (s_t S) 8 - 1) (s_n S)) hlf u _ (tp0 (m_s (R r)) b) (fun j hj => ?_) (s_n S) (by omega)]
  rw [hl0]
  show m_s (R r) (tp0 (m_s (R r)) b ((0 + j) / b)) ((0 + j) % b) = m_s (R r) (m_s (R r) 0 (j / b)) (j % b)
  rw [Nat.zero_add]
  have hjb : j / b < b := by
    have : j / b ≤ j / 2 := Nat.div_le_div_left (by omega) (by omega)
    omega
  have e : tp0 (m_s (R r)) b (j / b) = m_s (R r) 0 (j / b) := by
    show m_s (R r) (m_s (R r) 0 (j / b / b)) (j / b % b) = _
    rw [Nat.div_eq_of_lt hjb, Nat.mod_eq_of_lt hjb, g4]
  rw [e]
theorem cl0_sub {st : Nat → Nat → Nat} {n F : Nat} {vf : Nat → Nat} (h00 : st 0 0 = 0) (hv : vf 0 = 0) (hn : 0 < n) (hF : 0 < F) : ∀ k j, (cl0 st n F vf k).testBit j = true → (sp st n F vf (cl0 st n F vf k) 0).testBit j = true
  | 0, j, h => by
    have e : j = 0 := by
      have h1 : (1 : Nat).testBit j = true := h
      exact Nat.testBit_one_eq_true_iff_self_eq_zero.mp h1
    subst e
    exact sp_tb.mpr ⟨0, 0, hn, hF, (show bt 1 0 = 1 by decide), hv, h00⟩
  | k + 1, j, h => by
    have up : ∀ a, bt (cl0 st n F vf k) a = 1 → bt (cl0 st n F vf (k + 1)) a = 1 := fun a ha => tb_btI.mp (tb_or.mpr (Or.inl (tb_btI.mpr ha)))
    have h' : (sp st n F vf (cl0 st n F vf k) 0).testBit j = true := by
      rcases tb_or.mp h with q | q
      · exact cl0_sub h00 hv hn hF k j q
      · exact q
    obtain ⟨a, c, h1, h2, h3, h4, h5⟩ := sp_tb.mp h'
    exact sp_tb.mpr ⟨a, c, h1, h2, up a h3, h4, h5⟩
theorem cl0_sp {st : Nat → Nat → Nat} {n F : Nat} {vf : Nat → Nat} (h00 : st 0 0 = 0) (hv : vf 0 = 0) (hn : 0 < n) (hF : 0 < F) {k : Nat} (hk : cl0 st n F vf (k + 1) = cl0 st n F vf k) : sp st n F vf (cl0 st n F vf k) 0 = cl0 st n F vf k := by
  refine tb_ext (fun j => ⟨fun h => ?_, fun h => cl0_sub h00 hv hn hF k j h⟩)
  rw [← hk]
  exact tb_or.mpr (Or.inr h)
/-- a part's machine begins where it stays on noughts -/
theorem PSpec.zero {R : Nat → Mc} {D : Nat → PD} {Ms : Nat → Mc} {rc i : Nat} {m : Mc} (hb : b = 2 ∨ b = 3) (hrow : ∀ r, r < rc → RowG b (R r)) (hwf : PWf R rc D i) (hM : ∀ j, j < i → MsOK b D Ms j ∧ m_s (Ms j) 0 0 = 0) (h : PSpec b R D Ms i (Option.some m)) : m_s m 0 0 = 0 := by
  have hb0 : 0 < b := by omega
  have hf : 0 < fn b (p_s (D i)) := fn_pos hb0
  obtain ⟨a0, a1, a2, a3, a6⟩ := h
  obtain ⟨f1, f2, f3, f4, f5, f6, f7, f8, f9⟩ := hwf
  by_cases c0 : p_f (D i) = 0
  · exact can_00 hf (a0 c0).some.1 (fun u _ => sumB_0 u)
  by_cases c1 : p_f (D i) = 1
  · obtain ⟨⟨r, hr⟩, hSA, hSB, -, -⟩ := f5 c1
    obtain ⟨rl, l1, l2, l3⟩ := a1 c1 r hr
    have hgA := hrow r (hSA r hr).1
    have zA : ∀ u : List Nat, letB b R r (p_a (D i)) ((0 :: u).map (vw b (p_s (D i)) (s_s (p_a (D i))))) = letB b R r (p_a (D i)) (u.map (vw b (p_s (D i)) (s_s (p_a (D i))))) := fun u => by
      rw [List.map_cons, vw_0]
      exact letB_0 hb hSA hr hgA _
    cases rl with
    | none => exact absurd (l2 rfl) (by simp)
    | some ml =>
      obtain ⟨x1, x2⟩ := l3 ml rfl
      cases hsB : s_r (p_b (D i)) with
      | none =>
        refine can_00 hf (x1 hsB).some.1 (fun u _ => ?_)
        show jn 0 _ _ = jn 0 _ _
        rw [zA u]
      | some r' =>
        obtain ⟨rr, g1, g2, g3⟩ := x2 r' hsB
        have hgB := hrow r' (hSB r' hsB).1
        cases rr with
        | none => exact absurd (g2 rfl) (by simp)
        | some mr =>
          refine can_00 hf (g3 mr rfl).some.1 (fun u _ => ?_)
          show jn 0 _ _ = jn 0 _ _
          rw [zA u, List.map_cons, vw_0, letB_0 hb hSB hsB hgB]
  obtain ⟨⟨β, hm1, hm2, hm3⟩, hz⟩ := hM _ (f6 (by omega))
  by_cases c2 : p_f (D i) = 2
  · refine can_00 hf (a2 c2).some.1 (fun u _ => ?_)
    show 1 - m_b _ _ = 1 - m_b _ _
    rw [m_b0 hz]
  by_cases c3 : p_f (D i) ≤ 5
  · obtain ⟨-, hz2⟩ := hM _ (f8 ⟨by omega, c3⟩).1
    refine can_00 hf (a3 ⟨by omega, c3⟩).some.1 (fun u _ => ?_)
    show jn _ _ _ = jn _ _ _
    rw [List.map_cons, List.map_cons, vw_0, vw_0, m_b0 hz, m_b0 hz2]
  obtain ⟨x1, x2⟩ := a6 (by omega)
  by_cases e : p_s (D i) = p_s (D (p_l (D i)))
  · exact can_00 hf (x1 e).some.1 (fun u _ => m_b0 hz u)
  · obtain ⟨k, s1, s2⟩ := x2 e
    rcases s2 with ⟨o1, o2⟩ | ⟨o1, o2⟩
    · cases o2
    · refine can_00 hf o2.some.1 (fun u _ => ?_)
      have hsp := cl0_sp hz (vw_0 (b := b) (al := p_s (D (p_l (D i)))) (sm := p_s (D i))) hm1.1 (fn_pos hb0) s1
      show bdM _ _ (dl (sp _ _ _ _) (sp (m_s (Ms (p_l (D i)))) (m_n (Ms (p_l (D i)))) (fn b (p_s (D (p_l (D i))))) (vw b (p_s (D (p_l (D i)))) (p_s (D i))) (cl0 (m_s (Ms (p_l (D i)))) (m_n (Ms (p_l (D i)))) (fn b (p_s (D (p_l (D i))))) (vw b (p_s (D (p_l (D i)))) (p_s (D i))) k) 0) u) = _
      rw [hsp]
      rfl
/-- more digits than are needed change nothing -/
theorem rw_lead {st : Nat → Nat → Nat} {mn x y z e : Nat} (h00 : st 0 0 = 0) (hx : x < b ^ e) (hy : y < b ^ e) (hz : z < b ^ e) (hb : 1 < b) : ∀ k, rn st 0 (rw_ b mn x y z (e + k)) = rn st 0 (rw_ b mn x y z e)
  | 0 => rfl
  | k + 1 => by
    have hp : b ^ e ≤ b ^ (e + k) := Nat.pow_le_pow_right (by omega) (by omega)
    have e0 : cd b mn x y z (e + k) = 0 := by
      unfold cd
      rw [Nat.div_eq_of_lt (show x < b ^ (e + k) by omega), Nat.div_eq_of_lt (show y < b ^ (e + k) by omega), Nat.div_eq_of_lt (show z < b ^ (e + k) by omega), Nat.zero_mod]
      split
      · rfl
      · split
        · rfl
        · split <;> simp
    show rn st (st 0 (cd b mn x y z (e + k))) (rw_ b mn x y z (e + k)) = _
    rw [e0, h00]
    exact rw_lead h00 hx hy hz hb k
end ZeroC
