/-! ===== the reference: the machine of a side, all of it ===== -/
section RSide4C
variable {G : GG} {M : Mem} {m b L : Nat} {Q : Option Value → Mem → Prop}
def dgO (b al g : Nat) : Option Nat → Nat
  | none => 0
  | some c => dgN b al g c
theorem ldn_AB2 {a k : Nat} {mb : Option Nat} (ha : a < 8) (hb : ∀ c, mb = some c → c < 8) : ldn b (nsAB a mb) (tfAB a mb) k = dgN b (nsAB a mb) k a + dgO b (nsAB a mb) k mb := by
  rw [ldn_AB ha hb]
  cases mb with
  | none => rfl
  | some c => rfl
theorem ur_side (d : Nat) (hs : ReS M m) (hb : b = 2 ∨ b = 3) {w rr a c : Nat} {mb : Option Nat} {mc : Mc} (hw : w ≤ 1) (hr : rr < 10) (ha : a < 8) (hmb : ∀ c, mb = some c → c < 8) (h0 : x_i M m 0 = nI b) (hR : ReR M m rr b mc) (hn0 : 0 < m_n mc) (hn : m_n mc ≤ 60) (hc : ∀ i, i < m_n mc → ∀ g, g < b → m_s mc i g < m_n mc) (h00 : m_s mc 0 0 = 0) (hk8 : ∀ i, i < m_n mc → m_k mc i < 8) (hL1 : mb = none → L = c) (hL2 : mb ≠ none → L = 1 ∧ c = 0) (hL3 : L ≤ 3) (hroom : m_n mc ^ (L + 1) ≤ 3600)
    (hQ : ∀ M' res, FrM M M' m [25, 26, 29] [20, 21, 22, 23, 24, 25, 26, 53, 54, 55, 56, 57] → SiK M M' m w → LRes (fn b (nsAB a mb)) 40 (fun u => m_k mc (tz (m_s mc) b (ldn b (nsAB a mb) (tfAB a mb)) (tp0 (m_s mc) b) u c)) res → (∀ mc', res = some mc' → SiR M' m w (fn b (nsAB a mb)) mc') → Q (some (.int (nI (if res.isSome = true then 1 else 0)))) M') :
    Call G (d + 5) 0 0 mX12_side [.ref m, .int (nI w), .int (nI rr), .int (nI a), .int (nbI mb), .int (nI c)] M Q := by
  have hb1 : 1 < b := by omega
  have hb3 : b ≤ 3 := by omega
  have hal : nsAB a mb < 256 := nsAB_lt ha hmb
  have hf9 : fn b (nsAB a mb) ≤ 9 := by
    have hpc : pc (nsAB a mb) ≤ 2 := by
      cases mb with
      | none => have := (ns_lt a ha a ha).2.2.2; show pc (2 ^ a) ≤ 2; omega
      | some c => exact (ns_lt a ha c (hmb c rfl)).2.2.1
    have a1 : b ^ pc (nsAB a mb) ≤ b ^ 2 := Nat.pow_le_pow_right (by omega) hpc
    have a2 : b ^ 2 ≤ 3 ^ 2 := Nat.pow_le_pow_left hb3 2
    exact Nat.le_trans a1 a2
  have hf0 : 0 < fn b (nsAB a mb) := fn_pos (by omega)
  have hlfv : ∀ g, ldn b (nsAB a mb) (tfAB a mb) g = dgN b (nsAB a mb) g a + dgO b (nsAB a mb) g mb := fun g => ldn_AB2 ha hmb
  have hcL : c ≤ L := by
    by_cases e : mb = none
    · rw [hL1 e]; exact Nat.le_refl c
    · rw [(hL2 e).2]; omega
  have hdg : ∀ g n, dgN b (nsAB a mb) g n < b := fun g n => Nat.mod_lt _ (by omega)
  have hlf : ∀ g, ldn b (nsAB a mb) (tfAB a mb) g + L < (L + 1) * b := fun g => by
    rw [hlfv g]
    have d1 := hdg g a
    cases mb with
    | none =>
      show dgN b (nsAB a none) g a + 0 + L < (L + 1) * b
      generalize dgN b (nsAB a none) g a = y at *
      rcases hb with e | e <;> subst e <;> omega
    | some q =>
      have d2 := hdg g q
      have e1 := (hL2 (by simp)).1
      show dgN b (nsAB a (some q)) g a + dgN b (nsAB a (some q)) g q + L < (L + 1) * b
      generalize dgN b (nsAB a (some q)) g a = y at *
      generalize dgN b (nsAB a (some q)) g q = y2 at *
      rw [e1]
      omega
  generalize hlfe : ldn b (nsAB a mb) (tfAB a mb) = lf at *
  generalize hfg : fn b (nsAB a mb) = f at *
  have hpl : ∀ g j, j ≤ L → (lf g + j) / b ≤ L := fun g j hj => by
    have := hlf g
    have : (lf g + j) / b < L + 1 := Nat.div_lt_of_lt_mul (by rw [Nat.mul_comm]; omega)
    omega
  have hP0 : ∀ j, j ≤ L → tp0 (m_s mc) b j < m_n mc := fun j hj => hc _ (hc 0 hn0 _ (by
    have : j / b ≤ j / 2 := Nat.div_le_div_left hb1 (by omega)
    omega)) _ (Nat.mod_lt _ (by omega))
  have hk0 : ∀ j, j ≤ L → kh 60 (tp0 (m_s mc) b) (L + 1) 0 / 60 ^ j % 60 = tp0 (m_s mc) b j := fun j hj => by
    rw [kh_at (L + 1) 0 j (fun j hj => by rw [Nat.zero_add]; have := hP0 j (by omega); omega) (by omega), Nat.zero_add]
  have hbeta : ∀ u, leM (m_k mc) 60 c (dl (leD (m_s mc) b 60 L lf) (kh 60 (tp0 (m_s mc) b) (L + 1) 0) u) = m_k mc (tz (m_s mc) b lf (tp0 (m_s mc) b) u c) := fun u => le_tells2 hn hb1 hc hlf hcL u _ _ hP0 hk0
  have hPk : kh 60 (tp0 (m_s mc) b) (L + 1) 0 < 60 ^ (L + 1) ∧ ∀ j, j ≤ L → kh 60 (tp0 (m_s mc) b) (L + 1) 0 / 60 ^ j % 60 < m_n mc := ⟨kh_lt _ _ (fun j hj => by rw [Nat.zero_add]; have := hP0 j (by omega); omega), fun j hj => by rw [hk0 j hj]; exact hP0 j hj⟩
  generalize hk0e : kh 60 (tp0 (m_s mc) b) (L + 1) 0 = k0 at *
  have hPs : ∀ x, (x < 60 ^ (L + 1) ∧ ∀ j, j ≤ L → x / 60 ^ j % 60 < m_n mc) → ∀ g, g < f → (leD (m_s mc) b 60 L lf x g < 60 ^ (L + 1) ∧ ∀ j, j ≤ L → leD (m_s mc) b 60 L lf x g / 60 ^ j % 60 < m_n mc) := fun x hx g _ => by
    have h1 : ∀ j, j ≤ L → tpD (m_s mc) b (fun j => x / 60 ^ j % 60) (lf g) j < m_n mc := fun j hj => hc _ (hx.2 _ (hpl g j hj)) _ (Nat.mod_lt _ (by omega))
    refine ⟨kh_lt _ _ (fun j hj => by rw [Nat.zero_add]; have := h1 j (by omega); omega), fun j hj => ?_⟩
    show kh 60 (tpD (m_s mc) b (fun j => x / 60 ^ j % 60) (lf g)) (L + 1) 0 / 60 ^ j % 60 < m_n mc
    rw [kh_at (L + 1) 0 j (fun j hj => by rw [Nat.zero_add]; have := h1 j (by omega); omega) (by omega), Nat.zero_add]
    exact h1 j hj
  have hdx : ∀ x g, kh 60 (tpD (m_s mc) b (fun j => x / 60 ^ j % 60) (lf g)) (L + 1) 0 = leD (m_s mc) b 60 L lf x g := fun x g => rfl
  have hmu : ∀ x, leM (m_k mc) 60 c x = m_k mc (x / 60 ^ c % 60) := fun x => rfl
  generalize hδ : leD (m_s mc) b 60 L lf = δ at hbeta hPs hdx
  generalize hμ : leM (m_k mc) 60 c = μ at hbeta hmu
  have hall : ∀ k, exV δ f k0 k → ∀ x ∈ ex δ f k0 k, x < 60 ^ (L + 1) ∧ ∀ j, j ≤ L → x / 60 ^ j % 60 < m_n mc := fun k hV => ex_all hf0 hPk hPs k hV
  have hlen : ∀ k, exV δ f k0 k → (ex δ f k0 k).length ≤ 3600 := fun k hV => Nat.le_trans (dig_len (ex_nd k) (hall k hV)) hroom
  have hμ8 : ∀ k, exV δ f k0 k → ∀ x ∈ ex δ f k0 k, μ x < 8 := fun k hV x hx => by rw [hmu]; exact hk8 _ ((hall k hV x hx).2 c hcL)
  have fr0 : ∀ {M' : Mem}, FrM M M' m [25, 26] [20, 21, 56, 57] → ReS M' m ∧ x_i M' m 0 = nI b ∧ ReR M' m rr b mc := fun q => ⟨q.S hs, by rw [q.fm (by decide)]; exact h0, hR.fr q (by decide)⟩
  -- the least machine
  have done : ∀ i M', FrM M M' m [25, 26] [20, 21, 56, 57] → x_i M' m 26 = nI f → TuI M' m L (ex δ f k0 (i * f)) → RxI M' m f δ k0 μ (i * f) i → (ex δ f k0 (i * f)).length = i → ∀ z9 z10 z11, c1 z9 = true → c1 z10 = true → c1 z11 = true → Call G (d + 4) 0 0 mX12_least [.ref m] M' (fun r3 M4 => r3 = none ∧ (x_h M4 m).1 = 28 ∧ ((x_i M4 m 29) ≤ 40 → ∃ b7, x_r M4 m 82 = some b7 ∧ (x_h M4 b7).1 = 1 ∧ vp_in (nI w) (x_h M4 b7).2 ∧ (∀ M10, M10 = x_si M4 b7 (nI w).toNatClampNeg (x_i M4 m 29) → LX12_side_344 G (d + 4) 0 0 m (nI w) (nI rr) (nI a) (nbI mb) (nI c) (nI (nsAB a mb)) (nI (L + 1)) 0 z9 z10 z11 M10 Q)) ∧ (¬ (x_i M4 m 29) ≤ 40 → Q (some (.int 0)) M4)) := by
    intro i M' hfr h26 hdi hrx el z9 z10 z11 hz9 hz10 hz11
    have hV := hrx.2.2.1
    have hi36 := hlen _ hV
    obtain ⟨w1, w2⟩ := hrx.raw hf0 (by omega) el (by rw [hdi.1, el]) h26 (by omega) (fun x hx => by have := hμ8 _ hV x hx; omega)
    obtain ⟨q1, q2, q3⟩ := fr0 hfr
    refine ur_least d q1 w1 (fun M1 n st' mr' g1 hl hcan => ⟨rfl, ?_⟩)
    have q1' := g1.S q1
    have hnN := hl.2.1
    have hcan' : mcan f (n, st', mr') (fun u => m_k mc (tz (m_s mc) b lf (tp0 (m_s mc) b) u c)) := Can.congr hcan (fun u hu => (w2 u hu).trans (hbeta u))
    have e40 : x_i M1 m 29 ≤ 40 ↔ n ≤ 40 := by rw [hl.1]; exact nI_leI (a := n) (b := 40) (by omega) (by omega)
    rw [e40]
    refine ⟨q1'.1, fun hn40 => ⟨m + 55, q1'.r55, by rw [q1'.h55], by rw [q1'.h55]; exact vp_in_nI (show w < 2 by omega) (by omega), ?_⟩, fun hn40 => ?_⟩
    · rintro M10 rfl
      rw [nI_clamp (by omega), hl.1]
      have g2 : FrM M1 (x_si M1 (m + 55) w (nI n)) m [] [55] := FrM.rf.si (by decide) (by decide)
      have k2 : SiK M1 (x_si M1 (m + 55) w (nI n)) m w := ⟨fun t ht => by rw [xi_nk ht], fun t _ => by rw [xm_oo (by decide)], fun t _ => by rw [xm_oo (by decide)]⟩
      refine ur_sideCopy d (g2.S q1') ((w1.fr g1 (by decide) (by decide)).fr g2 (by decide) (by decide)) (hl.fr g2 (by decide) (by decide)) hw hn40 (fun M3 g3 k3 h3 h4 => ?_) z9 z10 z11 hz9 hz10 hz11
      have := hQ M3 (some (n, st', mr')) ((((hfr.wk (F := [25, 26, 29]) (A := [20, 21, 22, 23, 24, 25, 26, 53, 54, 55, 56, 57]) (by decide) (by decide)).tr g1 (by decide) (by decide)).tr g2 (by decide) (by decide)).tr g3 (by decide) (by decide)) ((((SiK.of hfr (by decide)).tr (SiK.of g1 (by decide))).tr k2).tr k3) (Or.inl ⟨_, rfl, hcan', hn40⟩) (fun mc' e => ?_)
      · exact this
      · cases e
        exact ⟨by rw [g3.i (by decide) (by decide), xi_eq]; rfl, h3, h4⟩
    · have := hQ M1 none ((hfr.wk (F := [25, 26, 29]) (A := [20, 21, 22, 23, 24, 25, 26, 53, 54, 55, 56, 57]) (by decide) (by decide)).tr g1 (by decide) (by decide)) ((SiK.of hfr (by decide)).tr (SiK.of g1 (by decide))) (Or.inr ⟨rfl, fun m' hm => by have h1 := (mcan_one hf0 hcan' hm).1; have h2 : n = m_n m' := h1; omega⟩) (fun mc' e => by cases e)
      exact this
  -- the digits of a tuple
  have inner : ∀ i, i < 3600 → (∀ M' z z1 z2, FrM M M' m [25, 26] [20, 21, 56, 57] → x_i M' m 26 = nI f → TuI M' m L (ex δ f k0 (i * f + f)) → RxI M' m f δ k0 μ (i * f + f) (i + 1) → c1 z = true → c1 z1 = true → c1 z2 = true → LX12_side_135 G (d + 4) 0 0 m (nI w) (nI rr) (nI a) (nbI mb) (nI c) (nI (nsAB a mb)) (nI (L + 1)) (nI (i + 1)) z z1 z2 M' Q) →
      ∀ k j, j + k = f → ∀ M', FrM M M' m [25, 26] [20, 21, 56, 57] → x_i M' m 26 = nI f → TuI M' m L (ex δ f k0 (i * f + j)) → RxI M' m f δ k0 μ (i * f + j) (i + 1) → ∀ z z1, c1 z = true → c1 z1 = true → LX12_side_186 G (d + 4) 0 0 m (nI w) (nI rr) (nI a) (nbI mb) (nI c) (nI (nsAB a mb)) (nI (L + 1)) (nI i) (nI j) z z1 M' Q := by
    intro i hi36 hout k
    induction k with
    | zero =>
      intro j hj M' hfr h26 hdi hrx z z1 hz hz1
      have e : j = f := by omega
      rw [e] at hdi hrx ⊢
      refine vX12_side_186 _ _ _ _ _ _ _ _ _ _ _ _ hz hz1 ⟨(fr0 hfr).1.1, fun _ => ?_, fun c => absurd (by rw [h26]; exact nI_le (Nat.le_refl f) (by omega)) c⟩
      rw [nI_1]
      exact hout M' _ _ _ hfr h26 hdi hrx rfl hz hz1
    | succ k ih =>
      intro j hj M' hfr h26 hdi hrx z z1 hz hz1
      have hjf : j < f := by omega
      have hil : i < (ex δ f k0 (i * f + j)).length := hrx.2.2.2
      have hlen' := hlen _ hrx.2.2.1
      obtain ⟨q1, q2, q3⟩ := fr0 hfr
      generalize hx : (ex δ f k0 (i * f + j)).getD i 0 = x
      have hxm : x ∈ ex δ f k0 (i * f + j) := by rw [← hx]; exact getD_mem hil
      have hxb := hall _ hrx.2.2.1 x hxm
      have e1 : (i * f + j) / f = i := by rw [Nat.mul_comm, Nat.mul_add_div hf0, Nat.div_eq_of_lt hjf]; rfl
      have e2 : (i * f + j) % f = j := by rw [Nat.mul_comm, Nat.mul_add_mod]; exact Nat.mod_eq_of_lt hjf
      have hex : ex δ f k0 (i * f + j + 1) = ins (ex δ f k0 (i * f + j)) (δ x j) := by
        show ins _ _ = _
        rw [e1, e2, hx]
      have hexl : exl δ f k0 (i * f + j) = (ins (ex δ f k0 (i * f + j)) (δ x j)).idxOf (δ x j) := by
        unfold exl
        rw [e1, e2, hx, hex]
      have h230 : ∀ v : Int32, v = nI (lf j) → LX12_side_230 G (d + 4) 0 0 m (nI w) (nI rr) (nI a) (nbI mb) (nI c) (nI (nsAB a mb)) (nI (L + 1)) (nI i) (nI j) v 0 M' Q := by
        rintro v rfl
        refine ur_side230 d q1 hb hr q2 q3 hn hc hL3 (P := fun j' => x / 60 ^ j' % 60) hdi (by omega) (by omega) (by omega) (hlf j) (fun j' hj' => ⟨by rw [← hx]; exact hdi.2.1 i hil j' hj', hxb.2 j' hj'⟩) (fun M1 g1 g2 => ?_)
        rw [hdx x j] at g2 ⊢
        rw [← hex] at g2
        rw [← hexl]
        have g3 : FrM M1 (x_si M1 (m + 20) (27 * i + j) (nI (exl δ f k0 (i * f + j)))) m [] [20] := FrM.rf.si (by decide) (by decide)
        exact ih (j + 1) (by omega) _ ((hfr.tr g1 (by decide) (by decide)).tr g3 (by decide) (by decide)) (by rw [xm_mo (by decide), g1.fm (by decide)]; exact h26) (g2.fr g3 (by decide) (by decide)) ((hrx.fr g1 (by decide)).link hf0 (by omega) rfl hjf hil rfl) _ _ rfl rfl
      refine vX12_side_186 _ _ _ _ _ _ _ _ _ _ _ _ hz hz1 ⟨q1.1, fun c => absurd (by rw [h26] at c; exact c) (nI_ge (a := j) (b := f) (by omega) (by omega)), fun _ => ?_⟩
      refine ur_digitOf (d + 1) q1 q2 hb1 hb3 (k := j) (by omega) hal ha ⟨_, rfl, fun cc => ⟨q1.1, ?_⟩, fun cc => ?_⟩
      · cases hmbe : mb with
        | none => rw [hmbe] at cc; exact absurd rfl cc
        | some q =>
          refine ur_digitOf (d + 1) q1 q2 hb1 hb3 (k := j) (n := q) (by omega) (by rw [← hmbe]; exact hal) (hmb q hmbe) ⟨_, rfl, ?_⟩
          rw [nI_add, ← hmbe]
          refine h230 _ ?_
          rw [hlfv j, hmbe]
          rfl
      · have hmbe := (nbI_1 hmb).mp cc
        refine h230 _ ?_
        rw [hlfv j, show (0 : Int32) = nI 0 from rfl, nI_add, hmbe]
        rfl
  have outer : ∀ k i, i + k = 3600 → ∀ M', FrM M M' m [25, 26] [20, 21, 56, 57] → x_i M' m 26 = nI f → TuI M' m L (ex δ f k0 (i * f)) → RxI M' m f δ k0 μ (i * f) i → ∀ z z1 z2, c1 z = true → c1 z1 = true → c1 z2 = true → LX12_side_135 G (d + 4) 0 0 m (nI w) (nI rr) (nI a) (nbI mb) (nI c) (nI (nsAB a mb)) (nI (L + 1)) (nI i) z z1 z2 M' Q := by
    intro k
    induction k with
    | zero =>
      intro i hi M' hfr h26 hdi hrx z z1 z2 hz hz1 hz2
      have hlen' := hlen _ hrx.2.2.1
      have hle' := hrx.2.2.2
      have el : (ex δ f k0 (i * f)).length = i := by omega
      exact vX12_side_135 _ _ _ _ _ _ _ _ _ _ _ _ hz hz1 hz2 ⟨(fr0 hfr).1.1, fun _ => done i M' hfr h26 hdi hrx el z z1 z2 hz hz1 hz2, fun c => absurd (by rw [hdi.1, el]; exact nI_le (Nat.le_refl i) (by omega)) c⟩
    | succ k ih =>
      intro i hi M' hfr h26 hdi hrx z z1 z2 hz hz1 hz2
      have hlen' := hlen _ hrx.2.2.1
      have hle' := hrx.2.2.2
      obtain ⟨q1, q2, q3⟩ := fr0 hfr
      refine vX12_side_135 _ _ _ _ _ _ _ _ _ _ _ _ hz hz1 hz2 ⟨q1.1, fun cq => ?_, fun cq => ?_⟩
      · rw [hdi.1] at cq
        have := (nI_leI (a := (ex δ f k0 (i * f)).length) (b := i) (by omega) (by omega)).mp cq
        exact done i M' hfr h26 hdi hrx (by omega) z z1 z2 hz hz1 hz2
      · rw [hdi.1] at cq
        have hil : i < (ex δ f k0 (i * f)).length := by
          rcases Nat.lt_or_ge i (ex δ f k0 (i * f)).length with q | q
          · exact q
          · exact absurd (nI_le q (by omega)) cq
        have hxb := hall _ hrx.2.2.1 _ (getD_mem hil)
        have htu := hdi.2.1 i hil c hcL
        have hin := hxb.2 c hcL
        have hmux := hmu ((ex δ f k0 (i * f)).getD i 0)
        generalize hx : (ex δ f k0 (i * f)).getD i 0 = x at hxb htu hin hmux
        have hRx := q3.2.1 _ hin
        have tl : ∀ (y : Int32), y = nI c → (x_h M' (m + 56)).1 = 1 ∧ vp_in ((4 * nI i) + y) (x_h M' (m + 56)).2 ∧ (x_h M' (m + 4)).1 = 1 ∧ vp_in ((60 * nI rr) + (x_i M' (m + 56) ((4 * nI i) + y).toNatClampNeg)) (x_h M' (m + 4)).2 ∧ (x_h M' (m + 21)).1 = 1 ∧ vp_in (nI i) (x_h M' (m + 21)).2 ∧ (∀ M21, M21 = x_si M' (m + 21) (nI i).toNatClampNeg (x_i M' (m + 4) ((60 * nI rr) + (x_i M' (m + 56) ((4 * nI i) + y).toNatClampNeg)).toNatClampNeg) → LX12_side_186 G (d + 4) 0 0 m (nI w) (nI rr) (nI a) (nbI mb) (nI c) (nI (nsAB a mb)) (nI (L + 1)) (nI i) 0 z1 z2 M21 Q) := by
          rintro y rfl
          rw [e4_, nI_clamp (n := 4 * i + c) (by omega), htu, e60_, nI_clamp (n := 60 * rr + x / 60 ^ c % 60) (by omega), hRx, nI_clamp (n := i) (by omega)]
          refine ⟨by rw [q1.h56], by rw [q1.h56]; exact vp_in_nI (show 4 * i + c < 33600 by omega) (by omega), by rw [q1.h4], by rw [q1.h4]; exact vp_in_nI (show 60 * rr + x / 60 ^ c % 60 < 600 by omega) (by omega), by rw [q1.h21], by rw [q1.h21]; exact vp_in_nI (show i < 8400 by omega) (by omega), ?_⟩
          rintro M3 rfl
          have g3 : FrM M' (x_si M' (m + 21) i (nI (m_k mc (x / 60 ^ c % 60)))) m [] [21] := FrM.rf.si (by decide) (by decide)
          exact inner i (by omega) (fun M4 z z1 z2 b1 b2 b3 b4 hz hz1 hz2 => ih (i + 1) (by omega) M4 b1 b2 (by rw [Nat.succ_mul]; exact b3) (by rw [Nat.succ_mul]; exact b4) z z1 z2 hz hz1 hz2) f 0 (Nat.zero_add f) _ (hfr.tr g3 (by decide) (by decide)) (by rw [xm_mo (by decide)]; exact h26) (hdi.fr g3 (by decide) (by decide)) (hrx.mark hil (by rw [hx, hmux])) z1 z2 hz1 hz2
        refine ⟨m + 21, q1.r21, m + 4, q1.r4, m + 56, q1.r56, fun cc => tl _ rfl, fun cc => tl 0 ?_⟩
        rw [(hL2 (fun e => cc ((nbI_1 hmb).mpr e))).2]
        rfl
  -- the start
  have go : ∀ x7 : Int32, x7 = nI (L + 1) → (x_h M m).1 = 28 ∧ (∀ M6, M6 = x_si M m 25 0 → Call G (d + 4) 0 0 mX12_across [.ref m, .int (nI (nsAB a mb))] M6 (fun r7 M8 => ∃ v9 : Int32, r7 = some (.int v9) ∧ (x_h M8 m).1 = 28 ∧ (∀ M11, M11 = x_si M8 m 26 v9 → LX12_side_42 G (d + 4) 0 0 m (nI w) (nI rr) (nI a) (nbI mb) (nI c) (nI (nsAB a mb)) x7 0 none M11 Q))) := by
    rintro x7 rfl
    refine ⟨hs.1, ?_⟩
    rintro M6 rfl
    have g6 : FrM M (x_si M m 25 0) m [25, 26] [20, 21, 56, 57] := FrM.rf.sm (by decide)
    refine u_across (d + 2) (g6.S hs) (b := b) (by rw [g6.fm (by decide)]; exact h0) hal ⟨_, rfl, (g6.S hs).1, ?_⟩
    rintro M11 rfl
    rw [hfg]
    have g11 : FrM M (x_si (x_si M m 25 0) m 26 (nI f)) m [25, 26] [20, 21, 56, 57] := g6.sm (by decide)
    obtain ⟨q1, q2, q3⟩ := fr0 g11
    refine ur_side42 d q1 hb hr q2 q3 hn0 hn hc h00 hL3 (by rw [xi_nk (by omega), xi_eq]) (fun M12 g12 t12 z hz => ?_)
    rw [hk0e] at t12
    exact outer 3600 0 (by omega) M12 (g11.tr g12 (by decide) (by decide)) (by rw [g12.fm (by decide), xi_eq]) (by rw [Nat.zero_mul]; exact t12) (by rw [Nat.zero_mul]; exact RxI.start) z none none hz rfl rfl
  refine eX12_side m _ _ _ _ _ (ur_nameSet (d + 3) ha hmb ⟨_, rfl, fun cc => go _ ?_, fun cc => go _ ?_⟩)
  · rw [hL1 ((nbI_1 hmb).mp cc), nI_1]
  · rw [(hL2 (fun e => cc ((nbI_1 hmb).mpr e))).1]; rfl
end RSide4C
