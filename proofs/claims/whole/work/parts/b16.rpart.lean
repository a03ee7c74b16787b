/-! ===== the reference: the machine of a part ===== -/
section RPartC
variable {G : GG} {M : Mem} {m b : Nat} {Q : Option Value → Mem → Prop}
/-- the data of a part in the reference's arrays -/
def ReD (M : Mem) (m : Nat) (D : Nat → PD) (p : Nat) : Prop :=
  x_i M (m + 30) p = nI (p_f (D p)) ∧ x_i M (m + 34) p = nI (p_p (D p)) ∧ x_i M (m + 35) p = nI (p_s (D p)) ∧
  (p_f (D p) = 0 → (∀ n, n < 8 → x_i M (m + 36) (8 * p + n) = iI ((s_t (p_a (D p)) n : Int) - (s_t (p_b (D p)) n : Int))) ∧ x_i M (m + 37) p = iI ((s_n (p_a (D p)) : Int) - s_n (p_b (D p))) ∧ x_i M (m + 38) p = nI (p_g (D p) - 16)) ∧
  (p_f (D p) = 1 → SdR M m 39 40 41 42 p (p_a (D p)) ∧ SdR M m 43 44 45 46 p (p_b (D p))) ∧
  (2 ≤ p_f (D p) → x_i M (m + 31) p = nI (p_l (D p))) ∧ (3 ≤ p_f (D p) ∧ p_f (D p) ≤ 5 → x_i M (m + 32) p = nI (p_r (D p))) ∧
  (p_f (D p) = 6 ∨ p_f (D p) = 7 → ∃ n, n < 8 ∧ x_i M (m + 33) p = nI n ∧ p_s (D p) = clr (p_s (D (p_l (D p)))) n)
theorem ReD.fr {M' : Mem} {D : Nat → PD} {p : Nat} {F A : List Nat} (h : ReD M m D p) (g : FrM M M' m F A) (h1 : ∀ o ∈ A, o < 30 ∨ 46 < o) : ReD M' m D p := by
  have hn : ∀ o, 30 ≤ o → o ≤ 46 → o ∉ A := fun o a1 a2 q => by have := h1 o q; omega
  have hi : ∀ o, 30 ≤ o → o ≤ 46 → x_i M' (m + o) = x_i M (m + o) := fun o a1 a2 => g.i (by omega) (hn o a1 a2)
  unfold ReD SdR
  rw [hi 30 (by omega) (by omega), hi 31 (by omega) (by omega), hi 32 (by omega) (by omega), hi 33 (by omega) (by omega), hi 34 (by omega) (by omega), hi 35 (by omega) (by omega), hi 36 (by omega) (by omega), hi 37 (by omega) (by omega), hi 38 (by omega) (by omega), hi 39 (by omega) (by omega), hi 40 (by omega) (by omega), hi 41 (by omega) (by omega), hi 42 (by omega) (by omega), hi 43 (by omega) (by omega), hi 44 (by omega) (by omega), hi 45 (by omega) (by omega), hi 46 (by omega) (by omega)]
  exact h
theorem res01 {α : Type} {res : Option α} : nI (if res.isSome = true then 1 else 0) = 0 ∨ nI (if res.isSome = true then 1 else 0) = 1 := by
  cases res with
  | none => exact Or.inl rfl
  | some _ => exact Or.inr rfl
theorem fn_27 {x : Nat} (hb : b = 2 ∨ b = 3) (h : pc x ≤ 3) : fn b x ≤ 27 := by
  have a1 : b ^ pc x ≤ b ^ 3 := Nat.pow_le_pow_right (by omega) h
  have a2 : b ^ 3 ≤ 3 ^ 3 := Nat.pow_le_pow_left (by omega) 3
  exact Nat.le_trans a1 a2
theorem ur_machineOf (d : Nat) (hs : ReS M m) (hb : b = 2 ∨ b = 3) (h0 : x_i M m 0 = nI b) {rc cnt i : Nat} {R : Nat → Mc} {D : Nat → PD} {Ms : Nat → Mc} (hrc : rc ≤ 10) (hrow : ∀ i, i < rc → RowG b (R i) ∧ ReR M m i b (R i)) (hcnt : cnt ≤ 60) (hD : ∀ j, j < cnt → ReD M m D j ∧ PWf R rc D j) (hi : i < cnt) (hM : ∀ j, j < i → MsOK b D Ms j ∧ ReP M m j (fn b (p_s (D j))) (Ms j))
    (hQ : ∀ M' res, FrM M M' m [25, 26, 29, 78] [20, 21, 22, 23, 24, 25, 26, 27, 28, 29, 48, 49, 50, 51, 52, 53, 54, 55, 56, 57] → RePk M M' m i → PSpec b R D Ms i res → (∀ mc, res = some mc → ReP M' m i (fn b (p_s (D i))) mc) → Q (some (.int (nI (if res.isSome = true then 1 else 0)))) M') :
    Call G (d + 8) 0 0 mX12_machineOf [.ref m, .int (nI i)] M Q := by
  have hb1 : 1 < b := by omega
  have hb3 : b ≤ 3 := by omega
  obtain ⟨⟨o30, o34, o35, f0, f1, f2, f3, f6⟩, hwf⟩ := hD i hi
  obtain ⟨v1, v2, v3, v4, v5, v6, v7, v8, v9⟩ := hwf
  have h27 := fn_27 hb v2
  have hclp : (nI i).toNatClampNeg = i := nI_clamp (by omega)
  have ef : ∀ k, k < 100 → (nI (p_f (D i)) = nI k ↔ p_f (D i) = k) := fun k hk => nI_eq (by omega) (by omega)
  -- a part ahead
  have ahead : ∀ j, j < i → x_i M (m + 35) j = nI (p_s (D j)) ∧ p_s (D j) < 256 ∧ fn b (p_s (D j)) ≤ 27 ∧ 0 < m_n (Ms j) ∧ m_n (Ms j) ≤ 40 ∧ (∀ t, t < m_n (Ms j) → ∀ g, g < fn b (p_s (D j)) → m_s (Ms j) t g < m_n (Ms j)) ∧ (∀ t, t < m_n (Ms j) → m_k (Ms j) t ≤ 1) ∧ ReP M m j (fn b (p_s (D j))) (Ms j) := fun j hj => by
    obtain ⟨⟨-, -, e35, -⟩, u1, u2, -⟩ := hD j (by omega)
    obtain ⟨⟨β, c1, c2, c3⟩, hP⟩ := hM j hj
    exact ⟨e35, u1, fn_27 hb u2, c1.1, c2, c1.2.1, c3, hP⟩
  have jo : 3 ≤ p_f (D i) ∧ p_f (D i) ≤ 5 → Call G (d + 7) 0 0 mX12_joins [.ref m, .int (nI i)] M (fun r24 M25 => ∃ v26 : Int32, r24 = some (.int v26) ∧ (v26 = 0 ∨ v26 = 1) ∧ Q (some (.int v26)) M25) := by
    intro c
    have hl := v6 (by omega)
    obtain ⟨hr, -⟩ := v8 c
    obtain ⟨l1, l2, l3, l4, l5, l6, l7, l8⟩ := ahead _ hl
    obtain ⟨r1, r2, r3, r4, r5, r6, r7, r8⟩ := ahead _ hr
    refine ur_joins (d + 1) hs h0 hb1 hb3 (p := i) (by omega) (l := p_l (D i)) (r := p_r (D i)) (by omega) (by omega) o30 (by omega) (f2 (by omega)) (f3 c) o35 l1 r1 v1 l2 r2 h27 l3 r3 l8 r8 ⟨l4, l5⟩ ⟨r4, r5⟩ l6 r6 l7 r7 (fun M' res g1 g2 g3 g4 => ⟨_, rfl, res01, hQ M' res (g1.wk (by decide) (by decide)) g2 ⟨fun e => by omega, fun e => by omega, fun e => by omega, fun _ => g3, fun e => by omega⟩ g4⟩)
  have bo : p_f (D i) = 6 ∨ p_f (D i) = 7 → Call G (d + 7) 0 0 mX12_bounds [.ref m, .int (nI i)] M (fun r24 M25 => ∃ v26 : Int32, r24 = some (.int v26) ∧ (v26 = 0 ∨ v26 = 1) ∧ Q (some (.int v26)) M25) := by
    intro c
    have hl := v6 (by omega)
    obtain ⟨l1, l2, l3, l4, l5, l6, l7, l8⟩ := ahead _ hl
    obtain ⟨n, hn, e33, eclr⟩ := f6 c
    refine ur_bounds d hs h0 hb1 hb3 (p := i) (a := p_l (D i)) (by omega) (by omega) hn c (f2 (by omega)) e33 o30 l1 o35 l2 eclr l3 l8 l4 l5 l6 l7 (fun M' res g1 g2 g3 g3' g4 => ⟨_, rfl, res01, hQ M' res (g1.wk (by decide) (by decide)) g2 ⟨fun e => by omega, fun e => by omega, fun e => by omega, fun e => by omega, fun _ => ⟨g3, g3'⟩⟩ g4⟩)
  refine eX12_machineOf m _ ⟨hs.1, m + 30, hs.r30, by rw [hs.h30], by rw [hs.h30]; exact vp_in_nI (show i < 130 by omega) (by omega), ?_⟩
  rw [hclp, o30]
  refine ⟨fun c => ?_, fun c => ?_, fun c => ?_, fun c => ?_, fun c => ?_, fun c => ?_, fun c => ?_, fun c => ?_, fun c => ?_⟩
  · have e := (ef 0 (by omega)).mp c
    obtain ⟨u1, u2, u3, u4, u5, u6⟩ := v4 e
    obtain ⟨g1, g2, g3⟩ := f0 e
    refine ur_sumsMachine (d + 1) hs hb (p := i) (by omega) v1 h27 u1 ⟨h0, g1, g2, g3, o35⟩ u5 u6 (by omega) (fun M' res k1 k2 k3 k4 => ⟨_, rfl, res01, hQ M' res (k1.wk (by decide) (by decide)) k2 ⟨fun _ => k3, fun e => by omega, fun e => by omega, fun e => by omega, fun e => by omega⟩ k4⟩)
  · have e := (ef 1 (by omega)).mp c
    obtain ⟨⟨r, hr⟩, u2, u3, u4, u5⟩ := v5 e
    obtain ⟨g1, g2⟩ := f1 e
    refine ur_lettersMachine (d + 1) hs hb (p := i) (by omega) h0 hrc hrow g1 g2 o35 hr u2 u3 u4 v1 h27 (fun M' res k1 k2 k3 k4 => ⟨_, rfl, res01, hQ M' res (k1.wk (by decide) (by decide)) k2 ⟨fun e => by omega, fun _ r' hr' => ?_, fun e => by omega, fun e => by omega, fun e => by omega⟩ k4⟩)
    rw [hr] at hr'
    cases hr'
    exact k3
  · have e := (ef 2 (by omega)).mp c
    have hl := v6 (by omega)
    obtain ⟨l1, l2, l3, l4, l5, l6, l7, l8⟩ := ahead _ hl
    have es := v7 e
    refine ⟨m + 31, hs.r31, by rw [hs.h31], by rw [hs.h31]; exact vp_in_nI (show i < 130 by omega) (by omega), ?_⟩
    rw [f2 (by omega)]
    refine ur_copy (d + 4) hs h0 (t := 1) (by omega) l1 l2 (by omega) l3 l8 l4 l5 l6 l7 (Nat.le_refl 1) (fun M1 g1 hRa => ⟨rfl, (g1.S hs).1, ?_⟩)
    refine ur_becomes (d + 2) (g1.S hs) hRa (by omega) (fun t ht => by show 1 - m_k (Ms (p_l (D i))) t ≤ 1; omega) (fun M' res k1 k2 k3 k4 => ⟨_, rfl, res01, hQ M' res ((g1.wk (by decide) (by decide)).tr k1 (by decide) (by decide)) (fun p' f' mc h1 h2 h3 h4 => k2 p' f' mc h1 h2 h3 (h4.fr g1 (by decide))) ⟨fun e => by omega, fun e => by omega, fun _ => ?_, fun e => by omega, fun e => by omega⟩ (by rw [es]; exact k4)⟩)
    rw [es]
    exact k3
  · exact jo (by have := (ef 3 (by omega)).mp c; omega)
  · exact jo (by have := (ef 4 (by omega)).mp c; omega)
  · exact jo (by have := (ef 5 (by omega)).mp c; omega)
  · exact bo (Or.inl ((ef 6 (by omega)).mp c))
  · exact bo (Or.inr ((ef 7 (by omega)).mp c))
  · obtain ⟨c0, c1, c2, c3, c4, c5, c6, c7⟩ := c
    have e0 : ¬ p_f (D i) = 0 := fun e => c0 ((ef 0 (by omega)).mpr e)
    have e1 : ¬ p_f (D i) = 1 := fun e => c1 ((ef 1 (by omega)).mpr e)
    have e2 : ¬ p_f (D i) = 2 := fun e => c2 ((ef 2 (by omega)).mpr e)
    have e3 : ¬ p_f (D i) = 3 := fun e => c3 ((ef 3 (by omega)).mpr e)
    have e4 : ¬ p_f (D i) = 4 := fun e => c4 ((ef 4 (by omega)).mpr e)
    have e5 : ¬ p_f (D i) = 5 := fun e => c5 ((ef 5 (by omega)).mpr e)
    have e6 : ¬ p_f (D i) = 6 := fun e => c6 ((ef 6 (by omega)).mpr e)
    have e7 : ¬ p_f (D i) = 7 := fun e => c7 ((ef 7 (by omega)).mpr e)
    omega
end RPartC
