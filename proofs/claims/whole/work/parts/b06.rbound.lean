/-! ===== the reference: copies, sets of states ===== -/
section RBoundC
def clr (x n : Nat) : Nat := if bt x n = 1 then x - 2 ^ n else x
theorem clr_I : ∀ x, x < 256 → ∀ n, n < 8 → (nI x &&& ((1 <<< (nI n &&& 31)) ^^^ (-1))) = nI (clr x n) ∧ clr x n < 256 := by decide +kernel
theorem clr_bt : ∀ x, x < 256 → ∀ n, n < 8 → ∀ k, k < 8 → bt (clr x n) k = if k = n then 0 else bt x k := by decide +kernel
variable {G : GG} {M : Mem} {m b : Nat} {Q : Option Value → Mem → Prop}
theorem ur_copy (d : Nat) (hs : ReS M m) (hb : x_i M m 0 = nI b) {a sC t : Nat} {mc : Mc} (ha : a < 130) (h35 : x_i M (m + 35) a = nI sC) (hsC : sC < 256) (hb1 : 0 < b) (h27 : fn b sC ≤ 27) (hP : ReP M m a (fn b sC) mc) (hn0 : 0 < m_n mc) (hn : m_n mc ≤ 40) (hc : ∀ i, i < m_n mc → ∀ g, g < fn b sC → m_s mc i g < m_n mc) (hk : ∀ i, i < m_n mc → m_k mc i ≤ 1) (ht : t ≤ 1)
    (hQ : ∀ M', FrM M M' m [25, 26] [20, 21] → RaI M' m (m_n mc) (fn b sC) (m_s mc) (fun i => if t = 1 then 1 - m_k mc i else m_k mc i) → Q none M') : Call G (d + 3) 0 0 mX12_copy [.ref m, .int (nI a), .int (nI t)] M Q := by
  have hf0 : 0 < fn b sC := fn_pos hb1
  refine eX12_copy m _ _ ⟨hs.1, m + 48, hs.r48, by rw [hs.h48], by rw [hs.h48]; exact vp_in_nI ha (by omega), ?_⟩
  rintro M1 rfl
  rw [nI_clamp (by omega), hP.1]
  have g1 : FrM M (x_si M m 25 (nI (m_n mc))) m [25, 26] [20, 21] := FrM.rf.sm (by decide)
  refine ⟨m + 35, hs.r35, by show (x_h M _).1 = 1; rw [hs.h35], by show vp_in _ (x_h M _).2; rw [hs.h35]; exact vp_in_nI ha (by omega), ?_⟩
  rw [xm_om (by decide), h35]
  refine u_across d (g1.S hs) (by rw [g1.fm (by decide)]; exact hb) hsC ⟨_, rfl, hs.1, ?_⟩
  rintro M2 rfl
  generalize hfg : fn b sC = f at *
  have g2 := g1.sm (k := 26) (v := nI f) (by decide)
  have fr0 : ∀ {M' : Mem}, FrM M M' m [25, 26] [20, 21] → ReS M' m ∧ ReP M' m a f mc := fun q => ⟨q.S hs, hP.fr q (by decide)⟩
  have inner : ∀ i, i < m_n mc → (∀ M' z, FrM M M' m [25, 26] [20, 21] → x_i M' m 25 = nI (m_n mc) → x_i M' m 26 = nI f → (∀ j, j < i + 1 → x_i M' (m + 21) j = nI (if t = 1 then 1 - m_k mc j else m_k mc j)) → (∀ j, j < i + 1 → ∀ e, e < f → x_i M' (m + 20) (27 * j + e) = nI (m_s mc j e)) → c1 z = true → LX12_copy_26 G (d + 2) 0 0 m (nI a) (nI t) (nI (i + 1)) z M' Q) →
      ∀ r k, k + r = f → ∀ M', FrM M M' m [25, 26] [20, 21] → x_i M' m 25 = nI (m_n mc) → x_i M' m 26 = nI f → (∀ j, j < i + 1 → x_i M' (m + 21) j = nI (if t = 1 then 1 - m_k mc j else m_k mc j)) → (∀ j, j < i → ∀ e, e < f → x_i M' (m + 20) (27 * j + e) = nI (m_s mc j e)) → (∀ e, e < k → x_i M' (m + 20) (27 * i + e) = nI (m_s mc i e)) → LX12_copy_63 G (d + 2) 0 0 m (nI a) (nI t) (nI i) (nI k) M' Q := by
    intro i hi hout r
    induction r with
    | zero =>
      intro k hkf M' hfr h25 h26 h1 h2 h3
      have e : k = f := by omega
      subst e
      refine vX12_copy_63 _ _ _ _ _ ⟨(fr0 hfr).1.1, fun _ => ?_, fun c => absurd (by rw [h26]; exact nI_le (Nat.le_refl k) (by omega)) c⟩
      rw [nI_1]
      refine hout M' _ hfr h25 h26 h1 (fun j hj e he => ?_) rfl
      by_cases ej : j = i
      · rw [ej]; exact h3 e he
      · exact h2 j (by omega) e he
    | succ r ih =>
      intro k hkf M' hfr h25 h26 h1 h2 h3
      obtain ⟨q1, q2⟩ := fr0 hfr
      have e27 : (27 : Int32) * nI i + nI k = nI (27 * i + k) := by rw [show (27 : Int32) = nI 27 from rfl, pk_mul, nI_add]
      refine vX12_copy_63 _ _ _ _ _ ⟨q1.1, fun c => absurd (by rw [h26] at c; exact c) (nI_ge (a := k) (b := f) (by omega) (by omega)), fun _ => ⟨m + 20, q1.r20, ?_⟩⟩
      refine ur_pTo (d + 1) q1 q2 ha hn h27 hi (by omega) ⟨_, rfl, by rw [q1.h20], by rw [e27, q1.h20]; exact vp_in_nI (show 27 * i + k < 226800 by omega) (by omega), ?_⟩
      rintro M3 rfl
      rw [e27, nI_clamp (by omega), nI_1]
      refine ih (k + 1) (by omega) _ (hfr.si (by decide) (by decide)) (by rw [xm_mo (by decide)]; exact h25) (by rw [xm_mo (by decide)]; exact h26) (fun j hj => by rw [xm_oo (by decide)]; exact h1 j hj) (fun j hj e he => by rw [xi_nk (by omega)]; exact h2 j hj e he) (fun e he => ?_)
      by_cases ee : e = k
      · rw [ee, xi_eq]
      · rw [xi_nk (by omega)]; exact h3 e (by omega)
  have outer : ∀ r i, i + r = m_n mc → ∀ M', FrM M M' m [25, 26] [20, 21] → x_i M' m 25 = nI (m_n mc) → x_i M' m 26 = nI f → (∀ j, j < i → x_i M' (m + 21) j = nI (if t = 1 then 1 - m_k mc j else m_k mc j)) → (∀ j, j < i → ∀ e, e < f → x_i M' (m + 20) (27 * j + e) = nI (m_s mc j e)) → ∀ z, c1 z = true → LX12_copy_26 G (d + 2) 0 0 m (nI a) (nI t) (nI i) z M' Q := by
    intro r
    induction r with
    | zero =>
      intro i hi M' hfr h25 h26 h1 h2 z hz
      have e : i = m_n mc := by omega
      rw [e] at h1 h2 ⊢
      refine vX12_copy_26 _ _ _ _ _ hz ⟨(fr0 hfr).1.1, fun _ => ?_, fun c => absurd (by rw [h25]; exact nI_le (Nat.le_refl _) (by omega)) c⟩
      exact hQ M' hfr ⟨h25, h26, fun j hj e he => ⟨h2 j hj e he, hc j hj e he⟩, fun j hj => ⟨h1 j hj, by have := hk j hj; show (if t = 1 then 1 - m_k mc j else m_k mc j) < 2 ^ 20; split <;> omega⟩, hn0, by omega, hf0, h27⟩
    | succ r ih =>
      intro i hi M' hfr h25 h26 h1 h2 z hz
      obtain ⟨q1, q2⟩ := fr0 hfr
      have e40 : (40 : Int32) * nI a + nI i = nI (40 * a + i) := by rw [show (40 : Int32) = nI 40 from rfl, pk_mul, nI_add]
      have hki := hk i (by omega)
      have vin : vp_in (nI i) (x_h M' (m + 21)).2 := by rw [q1.h21]; exact vp_in_nI (show i < 8400 by omega) (by omega)
      have go : ∀ v : Int32, v = nI (if t = 1 then 1 - m_k mc i else m_k mc i) → LX12_copy_63 G (d + 2) 0 0 m (nI a) (nI t) (nI i) 0 (x_si M' (m + 21) i v) Q := by
        intro v hv
        refine inner i (by omega) (fun M3 z b1 b2 b3 b4 b5 hz => ih (i + 1) (by omega) M3 b1 b2 b3 b4 b5 z hz) f 0 (by omega) _ (hfr.si (by decide) (by decide)) (by rw [xm_mo (by decide)]; exact h25) (by rw [xm_mo (by decide)]; exact h26) (fun j hj => ?_) (fun j hj e he => by rw [xm_oo (by decide)]; exact h2 j hj e he) (fun e he => absurd he (Nat.not_lt_zero e))
        by_cases ej : j = i
        · rw [ej, xi_eq, hv]
        · rw [xi_nk ej]; exact h1 j (by omega)
      refine vX12_copy_26 _ _ _ _ _ hz ⟨q1.1, fun c => absurd (by rw [h25] at c; exact c) (nI_ge (a := i) (b := m_n mc) (by omega) (by omega)), fun _ => ⟨m + 21, q1.r21, m + 50, q1.r50, by rw [q1.h50], by rw [e40, q1.h50]; exact vp_in_nI (show 40 * a + i < 5200 by omega) (by omega), ?_⟩⟩
      rw [e40, nI_clamp (by omega), q2.2.1 i (by omega), nI_eq (by omega) (by omega)]
      refine ⟨fun c => ⟨by rw [q1.h21], vin, ?_⟩, fun c => ⟨by rw [q1.h21], vin, ?_⟩⟩
      · rintro M3 rfl
        rw [nI_clamp (by omega)]
        refine go 0 ?_
        rcases (show t = 0 ∨ t = 1 by omega) with e | e
        · rw [if_neg (by omega), show m_k mc i = 0 by omega]; rfl
        · rw [if_pos e, show 1 - m_k mc i = 0 by omega]; rfl
      · rintro M3 rfl
        rw [nI_clamp (by omega)]
        refine go 1 ?_
        rcases (show t = 0 ∨ t = 1 by omega) with e | e
        · rw [if_neg (by omega), show m_k mc i = 1 by omega]; rfl
        · rw [if_pos e, show 1 - m_k mc i = 1 by omega]; rfl
  exact outer (m_n mc) 0 (by omega) _ g2 (by rw [xi_nk (by decide), xi_eq]) (by rw [xi_eq]) (fun j hj => absurd hj (Nat.not_lt_zero j)) (fun j hj => absurd hj (Nat.not_lt_zero j)) none rfl
/-- the sets met so far -/
def SoI (M : Mem) (m : Nat) (K : List Nat) : Prop := x_i M m 25 = nI K.length ∧ K.length ≤ 301 ∧ (∀ i, i < K.length → x_l M (m + 51) i = lN (K.getD i 0)) ∧ K.Nodup ∧ ∀ x ∈ K, x < 2 ^ 62
theorem SoI.fr {M' : Mem} {K : List Nat} {F A : List Nat} (h : SoI M m K) (g : FrM M M' m F A) (h0 : 25 ∉ F) (h1 : 51 ∉ A) : SoI M' m K := by
  unfold SoI
  rw [g.fm h0, g.l (by decide) h1]
  exact h
theorem ur_setOf (d : Nat) (hs : ReS M m) {K : List Nat} (h : SoI M m K) (hl : K.length ≤ 300) {S : Nat} (hS : S < 2 ^ 62) (hQ : ∀ M', FrM M M' m [25] [51] → SoI M' m (ins K S) → Q (some (.int (nI ((ins K S).idxOf S)))) M') : Call G (d + 1) 0 0 mX12_setOf [.ref m, .long (lN S)] M Q := by
  have h0 := h
  obtain ⟨h1, h2, h3, h4, h5⟩ := h
  refine eX12_setOf m _ ?_
  have new : S ∉ K → (300 < x_i M m 25 → ∀ M4, M4 = x_si M m 25 ((x_i M m 25) + 1) → Q (some (.int ((x_i M4 m 25) - 1))) M4) ∧ (¬ 300 < x_i M m 25 → ∃ b5, x_r M m 76 = some b5 ∧ (x_h M b5).1 = 2 ∧ vp_in (x_i M m 25) (x_h M b5).2 ∧ (∀ M8, M8 = x_sl M b5 (x_i M m 25).toNatClampNeg (lN S) → ∀ M9, M9 = x_si M8 m 25 ((x_i M8 m 25) + 1) → Q (some (.int ((x_i M9 m 25) - 1))) M9)) := by
    intro hno
    rw [h1]
    refine ⟨fun c => absurd c (nI_nlt (a := 300) (b := K.length) (by omega) (by omega)), fun _ => ⟨m + 51, hs.r51, by rw [hs.h51], by rw [hs.h51]; exact vp_in_nI (show K.length < 302 by omega) (by omega), ?_⟩⟩
    rintro M8 rfl M9 rfl
    have e : ins K S = K ++ [S] := if_neg hno
    have e2 : x_i (x_sl M (m + 51) (nI K.length).toNatClampNeg (lN S)) m 25 = nI K.length := h1
    rw [nI_clamp (by omega)] at e2 ⊢
    rw [e2, nI_1, xi_eq, nI_pred]
    have g1 : FrM M (x_sl M (m + 51) K.length (lN S)) m [25] [51] := FrM.rf.sl (by decide) (by decide)
    have g2 := g1.sm (k := 25) (v := nI (K.length + 1)) (by decide)
    have := hQ _ g2 (by
      rw [e]
      refine ⟨by rw [xi_eq, List.length_append]; rfl, by rw [List.length_append]; simp; omega, fun i hi => ?_, List.nodup_append.mpr ⟨h4, by simp, fun a ha b' hb' e => hno (by rw [List.mem_singleton] at hb'; rw [← hb', ← e]; exact ha)⟩, fun x hx => ?_⟩
      · rw [List.length_append] at hi
        simp at hi
        show x_l (x_sl M (m + 51) K.length (lN S)) (m + 51) i = _
        by_cases ei : i = K.length
        · rw [ei, xl_eq, getD_last]
        · rw [xl_nk ei, getD_app (by omega)]; exact h3 i (by omega)
      · rcases List.mem_append.mp hx with q | q
        · exact h5 x q
        · rw [List.mem_singleton.mp q]; exact hS)
    have ei : (ins K S).idxOf S = K.length := by rw [e, List.idxOf_append, if_neg hno]; simp
    rw [ei] at this
    exact this
  have key : ∀ r i, i + r = K.length → (∀ j, j < i → K.getD j 0 ≠ S) → LX12_setOf_2 G d 0 0 m (lN S) (nI i) M Q := by
    intro r
    induction r with
    | zero =>
      intro i hi hne
      have hno : S ∉ K := fun q => hne (K.idxOf S) (by have := idx_lt q; omega) (getD_idx q)
      exact vX12_setOf_2 _ _ _ ⟨hs.1, fun _ => new hno, fun c => absurd (by rw [h1, show i = K.length by omega]; exact nI_le (Nat.le_refl _) (by omega)) c⟩
    | succ r ih =>
      intro i hi hne
      refine vX12_setOf_2 _ _ _ ⟨hs.1, fun c => absurd (by rw [h1] at c; exact c) (nI_ge (a := i) (b := K.length) (by omega) (by omega)), fun _ => ⟨m + 51, hs.r51, by rw [hs.h51], by rw [hs.h51]; exact vp_in_nI (show i < 302 by omega) (by omega), ?_⟩⟩
      have hKi := h5 _ (getD_mem (K := K) (i := i) (by omega))
      rw [nI_clamp (by omega), h3 i (by omega), lg_cmp_eq, pk_lEQ (by omega) (by omega), nI_1]
      refine ⟨fun c => ih (i + 1) (by omega) (fun j hj => ?_), fun c => ?_⟩
      · by_cases e : j = i
        · rw [e]; exact c
        · exact hne j (by omega)
      · have hin : S ∈ K := by rw [← c]; exact getD_mem (by omega)
        have e : ins K S = K := if_pos hin
        rw [e] at hQ
        have := hQ M FrM.rf h0
        rw [← c, idx_getD h4 (by omega)] at this
        exact this
  exact key K.length 0 (by omega) (fun j hj => absurd hj (Nat.not_lt_zero j))
theorem ur_steps (d : Nat) (hs : ReS M m) (hb : x_i M m 0 = nI b) (hb1 : 1 < b) (hb3 : b ≤ 3) {a n sC g S : Nat} {mc : Mc} (ha : a < 130) (hn : n < 8) (h35 : x_i M (m + 35) a = nI sC) (hsC : sC < 256) (h27 : fn b sC ≤ 27) (hP : ReP M m a (fn b sC) mc) (hnn : m_n mc ≤ 40) (hc : ∀ i, i < m_n mc → ∀ g, g < fn b sC → m_s mc i g < m_n mc) (hS : S < 2 ^ 62) (hg : g < 2 ^ 30)
    (hQ : Q (some (.long (lN (sp (m_s mc) (m_n mc) (fn b sC) (vw b sC (clr sC n)) S g)))) M) : Call G (d + 5) 0 0 mX12_steps [.ref m, .int (nI a), .long (lN S), .int (nI g), .int (nI n)] M Q := by
  obtain ⟨cI, cI2⟩ := clr_I sC hsC n hn
  refine eX12_steps m _ _ _ _ ⟨hs.1, m + 35, hs.r35, by rw [hs.h35], by rw [hs.h35]; exact vp_in_nI ha (by omega), ?_⟩
  rw [nI_clamp (by omega), h35]
  have hvw : ∀ k, vw b sC (clr sC n) k < 6562 := fun k => by have := vw_lt (b := b) (al := sC) (sm := clr sC n) (k := k) (by omega); have := fn_le6561 (b := b) (x := clr sC n) hb3 (by omega); omega
  generalize hF : fn b sC = F at *
  generalize hvf : vw b sC (clr sC n) = vf at *
  have hin : ∀ j, (∃ a c, a < m_n mc ∧ c < F ∧ bt S a = 1 ∧ vf c = g ∧ m_s mc a c = j) → j < m_n mc := fun j ⟨a, c, h1, h2, _, _, h5⟩ => by rw [← h5]; exact hc a h1 c h2
  have lt62 : ∀ T : Nat, (∀ j, T.testBit j = true → j < m_n mc) → T < 2 ^ 62 := fun T h => Nat.lt_of_lt_of_le (lt_tb h) (Nat.pow_le_pow_right (by omega) (by omega))
  have outer : ∀ r k T, k + r = F → (∀ j, T.testBit j = true ↔ ∃ a c, a < m_n mc ∧ c < k ∧ bt S a = 1 ∧ vf c = g ∧ m_s mc a c = j) → ∀ z, c1 z = true → LX12_steps_14 G (d + 4) 0 0 m (nI a) (lN S) (nI g) (nI n) (lN T) (nI sC) (nI k) z M Q := by
    intro r
    induction r with
    | zero =>
      intro k T hk hT z hz
      have e : k = F := by omega
      refine vX12_steps_14 _ _ _ _ _ _ _ _ _ hz ⟨hs.1, u_across (d + 2) hs hb hsC ⟨_, rfl, fun _ => ?_, fun c => absurd (by rw [hF, e]; exact nI_le (Nat.le_refl _) (by omega)) c⟩⟩
      have : T = sp (m_s mc) (m_n mc) F vf S g := tb_ext (fun j => by rw [hT j, sp_tb, e])
      rw [this]; exact hQ
    | succ r ih =>
      intro k T hk hT z hz
      refine vX12_steps_14 _ _ _ _ _ _ _ _ _ hz ⟨hs.1, u_across (d + 2) hs hb hsC ⟨_, rfl, fun c => absurd c (by rw [hF]; exact nI_ge (by omega) (by omega)), fun _ => ⟨hs.1, ?_⟩⟩⟩
      rw [cI]
      refine ur_within d hs hb hb1 hb3 (by omega) hsC cI2 ⟨_, rfl, ?_⟩
      rw [hvf, nI_eq (by have := hvw k; omega) (by omega)]
      refine ⟨fun c => ?_, fun c => ?_⟩
      · rw [nI_1]
        refine ih (k + 1) T (by omega) (fun j => ?_) z hz
        rw [hT j]
        constructor
        · rintro ⟨x, y, h1, h2, h3⟩; exact ⟨x, y, h1, by omega, h3⟩
        · rintro ⟨x, y, h1, h2, h3, h4, h5⟩
          by_cases e : y = k
          · rw [e] at h4; exact absurd h4 c
          · exact ⟨x, y, h1, by omega, h3, h4, h5⟩
      · have inner : ∀ r2 i T, i + r2 = m_n mc → (∀ j, T.testBit j = true ↔ ∃ a c, a < m_n mc ∧ (c < k ∨ (c = k ∧ a < i)) ∧ bt S a = 1 ∧ vf c = g ∧ m_s mc a c = j) → LX12_steps_50 G (d + 4) 0 0 m (nI a) (lN S) (nI g) (nI n) (lN T) (nI sC) (nI k) (nI i) M Q := by
          intro r2
          induction r2 with
          | zero =>
            intro i T hi hT
            refine vX12_steps_50 _ _ _ _ _ _ _ _ _ ⟨hs.1, m + 48, hs.r48, by rw [hs.h48], by rw [hs.h48]; exact vp_in_nI ha (by omega), fun _ => ?_, fun q => absurd (by rw [nI_clamp (by omega), hP.1, show i = m_n mc by omega]; exact nI_le (Nat.le_refl _) (by omega)) q⟩
            rw [nI_1]
            refine ih (k + 1) T (by omega) (fun j => ?_) _ rfl
            rw [hT j]
            constructor
            · rintro ⟨x, y, h1, h2, h3⟩; exact ⟨x, y, h1, by omega, h3⟩
            · rintro ⟨x, y, h1, h2, h3⟩; exact ⟨x, y, h1, by omega, h3⟩
          | succ r2 ih2 =>
            intro i T hi hT
            have hbt := bt_le (x := S) (n := i)
            have hT62 : T < 2 ^ 62 := lt62 T (fun j hj => by
              obtain ⟨x, y, h1, h2, h3, h4, h5⟩ := (hT j).mp hj
              rw [← h5]; exact hc x h1 y (by omega))
            refine vX12_steps_50 _ _ _ _ _ _ _ _ _ ⟨hs.1, m + 48, hs.r48, by rw [hs.h48], by rw [hs.h48]; exact vp_in_nI ha (by omega), fun q => absurd (by rw [nI_clamp (by omega), hP.1] at q; exact q) (nI_ge (a := i) (b := m_n mc) (by omega) (by omega)), fun _ => ?_⟩
            rw [lsb hS (by omega), lg_cmp_eq, show (1 : Int64) = lN 1 from rfl, pk_lEQ (by omega) (by omega), nI_1]
            refine ⟨fun c1' => ?_, fun c1' => ?_⟩
            · rw [show (0 : Int64) = lN 0 from rfl, l_or hT62 (by omega), Nat.or_zero]
              refine ih2 (i + 1) T (by omega) (fun j => ?_)
              rw [hT j]
              constructor
              · rintro ⟨x, y, h1, h2, h3⟩; exact ⟨x, y, h1, by omega, h3⟩
              · rintro ⟨x, y, h1, h2, h3, h4⟩
                by_cases e : y = k ∧ x = i
                · rw [e.2] at h3; exact absurd h3 c1'
                · exact ⟨x, y, h1, by omega, h3, h4⟩
            · have hmv := hc i (by omega) k (by omega)
              refine ur_pTo (d + 3) hs hP ha hnn h27 (by omega) (by omega) ⟨_, rfl, ?_⟩
              rw [show (lN 1 : Int64) = 1 from rfl, l_1sh (by omega), l_or hT62 (pow_62 (by omega))]
              refine ih2 (i + 1) _ (by omega) (fun j => ?_)
              rw [tb_or, tb_pow, hT j]
              constructor
              · rintro (⟨x, y, h1, h2, h3⟩ | e)
                · exact ⟨x, y, h1, by omega, h3⟩
                · exact ⟨i, k, by omega, by omega, c1', c, e⟩
              · rintro ⟨x, y, h1, h2, h3, h4, h5⟩
                by_cases e : y = k ∧ x = i
                · rw [e.1, e.2] at h5; exact Or.inr h5
                · exact Or.inl ⟨x, y, h1, by omega, h3, h4, h5⟩
        refine inner (m_n mc) 0 T (by omega) (fun j => ?_)
        rw [hT j]
        constructor
        · rintro ⟨x, y, h1, h2, h3⟩; exact ⟨x, y, h1, by omega, h3⟩
        · rintro ⟨x, y, h1, h2, h3⟩; exact ⟨x, y, h1, by omega, h3⟩
  exact outer F 0 0 (by omega) (fun j => by
    rw [tb_0]
    exact ⟨False.elim, fun ⟨x, y, h1, h2, h3⟩ => absurd h2 (Nat.not_lt_zero y)⟩) none rfl
end RBoundC
