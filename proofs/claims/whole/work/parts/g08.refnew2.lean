/-! ===== the reference's constructor, whole; both at the start ===== -/
section RefNew2
variable {G : GG} {M M' M0 : Mem} {m e o rc rs lo hi : Nat} {Q : Option Value → Mem → Prop}
theorem rfT_key : ∀ k : Fin 96, ∀ x ∈ rfT k.1, rlT[x.1 - 1]? = some (k.1, x.2.1, x.2.2) ∧ 0 < x.1 := by decide +kernel
theorem rfT_hi {k : Nat} (h : 96 ≤ k) : rfT k = none := by
  unfold rfT
  split <;> first | rfl | omega
theorem Pz.reS {F : Nat → Int32} (h : Pz G M0 M m 1 F (rlT.take 64)) (ho : (x_h M0 m).1 = 28) : ReS M m := by
  have e64 : rlT.take 64 = rlT := rfl
  rw [e64] at h
  refine ⟨by rw [h.2.1]; exact ho, fun k o kd n hk => ?_⟩
  have hl : k < 96 := by
    rcases Nat.lt_or_ge k 96 with c | c
    · exact c
    · rw [rfT_hi c] at hk; cases hk
  obtain ⟨h1, h2⟩ := rfT_key ⟨k, hl⟩ _ hk
  have h1' : rlT[o - 1]? = some (k, kd, n) := h1
  have h2' : 0 < o := h2
  have r := h.r _ h1'
  have hh := h.h _ h1'
  rw [show m + 1 + (o - 1) = m + o by omega] at r hh
  exact ⟨r, hh⟩
theorem kk_ref (d : Nat) (hN : g_b G + x_n M0 = m + 1) (ho : (x_h M0 m).1 = 28) (hz : x_i M0 m = fun _ => 0) (hQ : ∀ M', Gw M0 M' m → ReS M' m → x_i M' m = (fun j => if j = 0 then 2 else 0) → (∀ s, s < 6 → x_i M' (m + 16) s = -1) → x_i M' (m + 17) = (fun _ => 0) → x_i M' (m + 18) = (fun _ => 0) → Q none M') : Call G (d + 1) 64 542897 mX12_init [.ref m] M0 Q := by
  refine ux_0 d hN ho rfl rfl (fun rc rs M1 e1 e2 p1 => ?_)
  refine ux_1 d ho p1 e1 e2 (fun rc rs M1 e1 e2 p1 => ?_)
  refine ux_2 d ho p1 e1 e2 (fun rc rs M1 e1 e2 p1 => ?_)
  refine ux_3 d ho p1 e1 e2 (fun rc rs M1 e1 e2 p1 => ?_)
  refine ux_4 d ho p1 e1 e2 (fun rc rs M1 e1 e2 p1 => ?_)
  refine ux_5 d ho p1 e1 e2 (fun rc rs M1 e1 e2 p1 => ?_)
  refine ux_6 d ho p1 e1 e2 (fun rc rs M1 e1 e2 p1 => ?_)
  refine ux_7 d ho p1 e1 e2 (fun rc rs M1 e1 e2 p1 => ?_)
  refine ux_8 d ho p1 e1 e2 (fun rc rs M1 e1 e2 p1 => ?_)
  have hS := p1.reS ho
  have loop : ∀ t i, i + t = 6 → ∀ M2, FrI M1 M2 [m + 16] → (∀ s, s < i → x_i M2 (m + 16) s = -1) → LX12_init_559 G d rc rs m (nI i) M2 Q := by
    intro t
    induction t with
    | zero =>
      intro i hi M2 g hs
      have ei : i = 6 := by omega
      subst ei
      refine vX12_init_559 _ _ ⟨fun _ => hQ M2 (fun q hq => ?_) (hS.eq g.h g.r) ?_ hs ?_ ?_, fun c => absurd (nI_le (show 6 ≤ 6 by omega) (by omega)) c⟩
      · obtain ⟨a1, a2, a3⟩ := p1.gw q hq
        exact ⟨by rw [g.h]; exact a1, by rw [g.r]; exact a2, by rw [g.i (by simp; omega)]; exact a3⟩
      · rw [g.i (by simp), p1.2.2.1]
        funext j
        by_cases c : j = 0
        · rw [if_pos c, if_pos c]
        · rw [if_neg c, if_neg c, hz]
      · rw [g.i (by simp)]
        have := p1.z 16 (show (rlT.take 64)[16]? = some (20, 1, 6) from rfl)
        exact this
      · rw [g.i (by simp)]
        have := p1.z 17 (show (rlT.take 64)[17]? = some (21, 1, 240) from rfl)
        exact this
    | succ t ih =>
      intro i hi M2 g hs
      have s2 := hS.eq g.h g.r
      refine vX12_init_559 _ _ ⟨fun c => absurd c (nI_ge (a := i) (b := 6) (by omega) (by omega)), fun _ => ⟨s2.1, m + 16, s2.r16, by rw [s2.h16], by rw [s2.h16]; exact vp_in_nI (show i < 6 by omega) (by omega), ?_⟩⟩
      rintro M6 rfl
      rw [nI_clamp (by omega), nI_1]
      refine ih (i + 1) (by omega) _ (g.si (by simp)) (fun s hs' => ?_)
      by_cases c : s = i
      · rw [c, xi_eq]
      · rw [xi_nk c]; exact hs s (by omega)
  exact loop 6 0 (by omega) M1 FrI.rf (fun s hs => absurd hs (Nat.not_lt_zero _))
theorem CoS.kn (h : CoS M e) (k : Kn M M' e (e + 616)) : CoS M' e := by
  obtain ⟨a1, a2, a3, a4, a5, a6, a7, a8, a9, a10, a11, a12, b1, b2, b3, b4, b5, b6, b7, b8, c1, c2, c3, c4, c5, c6, c7, d1, d2, d3⟩ := h
  have kr := k.r (q := e) (Nat.le_refl _) (by omega)
  have kh : ∀ q, e ≤ q → q < e + 616 → x_h M' q = x_h M q := fun q h1 h2 => k.h h1 h2
  refine ⟨by rw [kh _ (by omega) (by omega)]; exact a1, by rw [kr]; exact a2, by rw [kr]; exact a3, by rw [kr]; exact a4, by rw [kr]; exact a5, by rw [kr]; exact a6, by rw [kr]; exact a7, by rw [kr]; exact a8, by rw [kr]; exact a9, by rw [kr]; exact a10, by rw [kr]; exact a11, by rw [kr]; exact a12, ⟨by rw [kh _ (by omega) (by omega)]; exact b1.1, fun i hi => ⟨by rw [k.r (by omega) (by omega)]; exact (b1.2 i hi).1, (b1.2 i hi).2.kn k (by omega) (by omega)⟩⟩, ⟨by rw [kh _ (by omega) (by omega)]; exact b2.1, fun i hi => ⟨by rw [k.r (by omega) (by omega)]; exact (b2.2 i hi).1, (b2.2 i hi).2.kn k (by omega) (by omega)⟩⟩, by rw [kh _ (by omega) (by omega)]; exact b3, by rw [kh _ (by omega) (by omega)]; exact b4, fun i hi => ⟨by rw [k.r (by omega) (by omega)]; exact (b5 i hi).1, by rw [kh _ (by omega) (by omega)]; exact (b5 i hi).2⟩, by rw [kh _ (by omega) (by omega)]; exact b6, by rw [kh _ (by omega) (by omega)]; exact b7, by rw [kh _ (by omega) (by omega)]; exact b8, by rw [kh _ (by omega) (by omega)]; exact c1, by rw [k.r (by omega) (by omega)]; exact c2, by rw [k.r (by omega) (by omega)]; exact c3, c4.kn k (by omega) (by omega), c5.kn k (by omega) (by omega) (by omega) (by omega), c6.kn k (by omega) (by omega), c7.kn k (by omega) (by omega), by rw [kh _ (by omega) (by omega)]; exact d1, by rw [k.r (by omega) (by omega)]; exact d2, by rw [kh _ (by omega) (by omega)]; exact d3⟩
def sg0 : Sg := (2, 0, (fun _ => 0), (fun _ => -1), (fun _ => 0), (fun _ _ => 0), 0, (fun _ => 0), (fun _ => 0), 0, (fun _ => (0, none, none, 0, 0, 0)), [], 0)
def mc0 : Nat → Mc := fun _ => (0, (fun _ _ => 0), fun _ => 0)
/-- both fresh: they hold one state -/
theorem start_rel (hF : Fresh M e) (hem : e + 616 = m) (g : Gw M M' m) (hS : ReS M' m) (hi : x_i M' m = (fun j => if j = 0 then 2 else 0)) (h16 : ∀ s, s < 6 → x_i M' (m + 16) s = -1) (h17 : x_i M' (m + 17) = (fun _ => 0)) (h18 : x_i M' (m + 18) = (fun _ => 0)) : CRel M' e m := by
  obtain ⟨f1, f2, f3, f4, f5, f6, f7, f8, f9⟩ := hF
  have k : Kn M M' e (e + 616) := g.kn (by omega)
  have ki : ∀ q, e ≤ q → q < e + 616 → x_i M' q = x_i M q := fun q a b => k.i a b
  have hW : SgW sg0 := ⟨Or.inl rfl, Nat.zero_le _, fun i hi => absurd hi (Nat.not_lt_zero _), fun s _ => ⟨Nat.zero_le _, Or.inl rfl, fun _ => rfl, fun _ _ => Nat.zero_le _⟩, Nat.zero_le _, fun i hi => absurd hi (Nat.not_lt_zero _), Nat.zero_le _, fun i hi => absurd hi (Nat.not_lt_zero _), Nat.zero_le _⟩
  have hM : MaW sg0 mc0 mc0 := ⟨fun i hi => absurd hi (Nat.not_lt_zero _), fun i hi => absurd hi (Nat.not_lt_zero _)⟩
  refine CRel.mk1 (S := sg0) (R := mc0) (K := mc0) (by omega) hW hM ⟨f1.kn k, ?_, fun i hi => absurd hi (Nat.not_lt_zero _), ⟨fun s hs => ?_, fun i hi => ?_⟩, fun i hi => absurd hi (Nat.not_lt_zero _), fun i hi => absurd hi (Nat.not_lt_zero _), ⟨?_, fun i hi => absurd hi (Nat.not_lt_zero _)⟩⟩ ⟨hS, ?_, fun i hi => absurd hi (Nat.not_lt_zero _), fun s hs => ⟨h16 s hs, by rw [h17]; rfl, fun i hi => by rw [h18]; rfl⟩, fun i hi => absurd hi (Nat.not_lt_zero _), fun i hi => absurd hi (Nat.not_lt_zero _), fun i hi => absurd hi (Nat.not_lt_zero _)⟩
  · unfold CoB
    rw [ki e (by omega) (by omega)]
    exact ⟨f2, f3, f4, f5, f6⟩
  · rw [ki _ (by omega) (by omega), ki _ (by omega) (by omega), ki _ (by omega) (by omega)]
    obtain ⟨z1, z2, z3⟩ := f7 s hs
    exact ⟨z1, z2, fun i _ => z3 i⟩
  · rw [ki _ (by omega) (by omega)]; exact f8 i
  · rw [ki _ (by omega) (by omega)]; exact f9
  · unfold ReB
    rw [hi]
    exact ⟨rfl, rfl, rfl, rfl, rfl, rfl⟩
end RefNew2
