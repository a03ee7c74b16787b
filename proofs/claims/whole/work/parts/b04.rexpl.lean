/-! ===== the reference: machines told state by state, becomes, newRow ===== -/
section RExplC
variable {G : GG} {M : Mem} {m f k0 : Nat} {δ : Nat → Nat → Nat} {μ : Nat → Nat} {Q : Option Value → Mem → Prop}
/-- c links and i marks are told -/
def RxI (M : Mem) (m f : Nat) (δ : Nat → Nat → Nat) (k0 : Nat) (μ : Nat → Nat) (c i : Nat) : Prop :=
  (∀ a d, d < f → a * f + d < c → x_i M (m + 20) (27 * a + d) = nI (exl δ f k0 (a * f + d))) ∧ (∀ t, t < i → x_i M (m + 21) t = nI (μ ((ex δ f k0 c).getD t 0))) ∧ exV δ f k0 c ∧ i ≤ (ex δ f k0 c).length
theorem RxI.start : RxI M m f δ k0 μ 0 0 := ⟨fun a d _ h => absurd h (Nat.not_lt_zero _), fun t h => absurd h (Nat.not_lt_zero t), fun p hp => absurd hp (Nat.not_lt_zero p), Nat.zero_le _⟩
theorem RxI.fr {M' : Mem} {c i : Nat} {F A : List Nat} (h : RxI M m f δ k0 μ c i) (g : FrM M M' m F A) (h1 : 20 ∉ A ∧ 21 ∉ A) : RxI M' m f δ k0 μ c i := by
  unfold RxI
  rw [g.i (by decide) h1.1, g.i (by decide) h1.2]
  exact h
/-- the next link is told -/
theorem RxI.link {c i a d : Nat} (h : RxI M m f δ k0 μ c i) (hf : 0 < f) (hf27 : f ≤ 27) (hc : c = a * f + d) (hd : d < f) (ha : a < (ex δ f k0 c).length) {v : Int32} (hv : v = nI (exl δ f k0 c)) : RxI (x_si M (m + 20) (27 * a + d) v) m f δ k0 μ (c + 1) i := by
  obtain ⟨h1, h2, h3, h4⟩ := h
  have e1 : c / f = a := by rw [hc, Nat.mul_comm, Nat.mul_add_div hf, Nat.div_eq_of_lt hd]; rfl
  refine ⟨fun a' d' hd' h' => ?_, fun t ht => ?_, fun p hp => ?_, Nat.le_trans h4 (ex_le c 1)⟩
  · by_cases e : 27 * a' + d' = 27 * a + d
    · have ea : a' = a := by omega
      have ed : d' = d := by omega
      rw [e, xi_eq, hv, ea, ed, hc]
    · rw [xi_nk e]
      refine h1 a' d' hd' ?_
      have : a' * f + d' ≠ c := fun q => by
        have e2 : (a' * f + d') / f = a' := by rw [Nat.mul_comm, Nat.mul_add_div hf, Nat.div_eq_of_lt hd']; rfl
        have : a' = a := by rw [← e2, q, e1]
        subst this
        omega
      omega
  · rw [xm_oo (by decide), h2 t ht]
    congr 2
    exact (ex_getD c 1 (by omega)).symm
  · by_cases e3 : p = c
    · rw [e3, e1]; exact ha
    · exact h3 p (by omega)
theorem RxI.mark {c i : Nat} (h : RxI M m f δ k0 μ c i) (hi : i < (ex δ f k0 c).length) {v : Int32} (hv : v = nI (μ ((ex δ f k0 c).getD i 0))) : RxI (x_si M (m + 21) i v) m f δ k0 μ c (i + 1) := by
  obtain ⟨h1, h2, h3, h4⟩ := h
  refine ⟨fun a d hd h' => by rw [xm_oo (by decide)]; exact h1 a d hd h', fun t ht => ?_, h3, hi⟩
  by_cases e : t = i
  · rw [e, xi_eq, hv]
  · rw [xi_nk e]; exact h2 t (by omega)
/-- all is told: the machine, and what it tells -/
theorem RxI.raw {N : Nat} (h : RxI M m f δ k0 μ (N * f) N) (hf : 0 < f) (hf27 : f ≤ 27) (hl : (ex δ f k0 (N * f)).length = N) (h25 : x_i M m 25 = nI N) (h26 : x_i M m 26 = nI f) (hN : N ≤ 8400) (hμ : ∀ x ∈ ex δ f k0 (N * f), μ x < 2 ^ 20) :
    RaI M m N f (fun i d => exl δ f k0 (i * f + d)) (fun t => μ ((ex δ f k0 (N * f)).getD t 0)) ∧ ∀ u, wd f u → μ ((ex δ f k0 (N * f)).getD (rn (fun i d => exl δ f k0 (i * f + d)) 0 u) 0) = μ (dl δ k0 u) := by
  obtain ⟨h1, h2, h3, h4⟩ := h
  have hcc : N * f = (ex δ f k0 (N * f)).length * f := by rw [hl]
  have hlt : ∀ a, a < N → ∀ d, d < f → a * f + d < N * f := fun a ha d hd => by
    have : (a + 1) * f ≤ N * f := Nat.mul_le_mul_right f ha
    rw [Nat.succ_mul] at this
    omega
  refine ⟨⟨h25, h26, fun i hi d hd => ⟨h1 i d hd (hlt i hi d hd), ?_⟩, fun i hi => ⟨h2 i hi, hμ _ (getD_mem (by omega))⟩, ?_, hN, hf, hf27⟩, fun u hu => ?_⟩
  · have := (ex_closed hf hcc (i := i) (by omega) hd h3).1
    rw [hl] at this; exact this
  · have := ex_pos (δ := δ) (f := f) (k0 := k0) (N * f); omega
  · rw [(ex_word hf hcc h3 u 0 hu (ex_pos _)).2, ex_0]
/-- the machine of a part, as the reference holds it -/
def ReP (M : Mem) (m p f : Nat) (mc : Mc) : Prop := x_i M (m + 48) p = nI (m_n mc) ∧ (∀ i, i < m_n mc → x_i M (m + 50) (40 * p + i) = nI (m_k mc i)) ∧ ∀ i, i < m_n mc → ∀ k, k < f → x_i M (m + 49) (27 * (40 * p + i) + k) = nI (m_s mc i k)
theorem ReP.fr {M' : Mem} {p : Nat} {mc : Mc} {F A : List Nat} (h : ReP M m p f mc) (g : FrM M M' m F A) (h1 : 48 ∉ A ∧ 49 ∉ A ∧ 50 ∉ A) : ReP M' m p f mc := by
  unfold ReP
  rw [g.i (by decide) h1.1, g.i (by decide) h1.2.1, g.i (by decide) h1.2.2]
  exact h
/-- other parts stay -/
def RePk (M M' : Mem) (m p : Nat) : Prop := ∀ p' f' mc, p' ≠ p → m_n mc ≤ 40 → f' ≤ 27 → ReP M m p' f' mc → ReP M' m p' f' mc
theorem ur_becomes (d : Nat) (hs : ReS M m) {N p : Nat} {st : Nat → Nat → Nat} {mk : Nat → Nat} (h : RaI M m N f st mk) (hp : p < 130) (hm1 : ∀ i, i < N → mk i ≤ 1)
    (hQ : ∀ M' res, FrM M M' m [29] [22, 23, 24, 25, 26, 48, 49, 50] → RePk M M' m p → LRes f 40 (fun w => mk (rn st 0 w)) res → (∀ mc, res = some mc → ReP M' m p f mc) → Q (some (.int (nI (if res.isSome = true then 1 else 0)))) M') : Call G (d + 5) 0 0 mX12_becomes [.ref m, .int (nI p)] M Q := by
  refine eX12_becomes m _ ⟨hs.1, ur_least d hs h (fun M1 n st' mr' g1 hl hcan => ⟨rfl, ?_⟩)⟩
  have hf : 0 < f := h.2.2.2.2.2.2.1
  have hf27 : f ≤ 27 := h.2.2.2.2.2.2.2
  have hR1 : RaI M1 m N f st mk := h.fr g1 (by decide) (by decide)
  have hs1 := g1.S hs
  have hmr : ∀ i, i < n → mr' i ≤ 1 := fun i hi => by
    obtain ⟨-, -, sg, cl, l3, -, -⟩ := hl
    rw [(l3 i hi).2.2]; exact hm1 _ (l3 i hi).2.1
  refine ⟨hs1.1, fun c => ?_, fun c => ?_⟩
  · rw [hl.1] at c
    have hn : n ≤ 40 := (nI_leI (a := n) (b := 40) (by have := hl.2.1; have := h.2.2.2.2.2.1; omega) (by omega)).mp c
    refine ⟨m + 48, hs1.r48, by rw [hs1.h48], by rw [hs1.h48]; exact vp_in_nI hp (by omega), ?_⟩
    rintro M2 rfl
    rw [nI_clamp (by omega), hl.1]
    have g2 : FrM M1 (x_si M1 (m + 48) p (nI n)) m [] [48, 49, 50] := FrM.rf.si (by decide) (by decide)
    have fr0 : ∀ {M' : Mem}, FrM M1 M' m [] [48, 49, 50] → ReS M' m ∧ RaI M' m N f st mk ∧ LsI M' m N f st mk n st' mr' := fun q => ⟨q.S hs1, hR1.fr q (by decide) (by decide), hl.fr q (by decide) (by decide)⟩
    -- what is written so far: all of the states below i, and k steps of i
    have inner : ∀ i, i < n → (∀ M' z, FrM M1 M' m [] [48, 49, 50] → x_i M' (m + 48) p = nI n → (∀ t, t < i + 1 → x_i M' (m + 50) (40 * p + t) = nI (mr' t)) → (∀ t, t < i + 1 → ∀ k, k < f → x_i M' (m + 49) (27 * (40 * p + t) + k) = nI (st' t k)) → RePk M1 M' m p → c1 z = true → LX12_becomes_27 G (d + 4) 0 0 m (nI p) (nI (i + 1)) z M' Q) →
        ∀ r k, k + r = f → ∀ M', FrM M1 M' m [] [48, 49, 50] → x_i M' (m + 48) p = nI n → (∀ t, t < i + 1 → x_i M' (m + 50) (40 * p + t) = nI (mr' t)) → (∀ t, t < i → ∀ k, k < f → x_i M' (m + 49) (27 * (40 * p + t) + k) = nI (st' t k)) → (∀ k', k' < k → x_i M' (m + 49) (27 * (40 * p + i) + k') = nI (st' i k')) → RePk M1 M' m p → LX12_becomes_68 G (d + 4) 0 0 m (nI p) (nI i) (nI k) M' Q := by
      intro i hi hout r
      induction r with
      | zero =>
        intro k hk M' hfr hp1 hp2 hp3 hp4 hpk
        have e : k = f := by omega
        subst e
        obtain ⟨q1, q2, q3⟩ := fr0 hfr
        refine vX12_becomes_68 _ _ _ _ ⟨q1.1, fun _ => ?_, fun c => absurd (by rw [q2.2.1]; exact nI_le (Nat.le_refl k) (by omega)) c⟩
        rw [nI_1]
        refine hout M' _ hfr hp1 hp2 (fun t ht k' hk' => ?_) hpk rfl
        by_cases e : t = i
        · rw [e]; exact hp4 k' hk'
        · exact hp3 t (by omega) k' hk'
      | succ r ih =>
        intro k hk M' hfr hp1 hp2 hp3 hp4 hpk
        obtain ⟨q1, q2, q3⟩ := fr0 hfr
        have e40 : (27 : Int32) * (40 * nI p + nI i) + nI k = nI (27 * (40 * p + i) + k) := by rw [show (40 : Int32) = nI 40 from rfl, pk_mul, nI_add, show (27 : Int32) = nI 27 from rfl, pk_mul, nI_add]
        refine vX12_becomes_68 _ _ _ _ ⟨q1.1, fun c => absurd (by rw [q2.2.1] at c; exact c) (nI_ge (a := k) (b := f) (by omega) (by omega)), fun _ => ⟨m + 49, q1.r49, ?_⟩⟩
        refine ur_stepOf (d + 3) q1 q2 q3 hi (by omega) ⟨_, rfl, by rw [q1.h49], by rw [e40, q1.h49]; exact vp_in_nI (show 27 * (40 * p + i) + k < 140400 by omega) (by omega), ?_⟩
        rintro M3 rfl
        rw [e40, nI_clamp (by omega), nI_1]
        have g3 : FrM M' (x_si M' (m + 49) (27 * (40 * p + i) + k) (nI (st' i k))) m [] [48, 49, 50] := FrM.rf.si (by decide) (by decide)
        refine ih (k + 1) (by omega) _ (hfr.tr g3 (by decide) (by decide)) (by rw [xm_oo (by decide)]; exact hp1) (fun t ht => by rw [xm_oo (by decide)]; exact hp2 t ht) (fun t ht k' hk' => by rw [xi_nk (by omega)]; exact hp3 t ht k' hk') (fun k' hk' => ?_) (fun p' f' mc hne hn' hf' hR => ?_)
        · by_cases e : k' = k
          · rw [e, xi_eq]
          · rw [xi_nk (by omega)]; exact hp4 k' (by omega)
        · obtain ⟨y1, y2, y3⟩ := hpk p' f' mc hne hn' hf' hR
          exact ⟨by rw [xm_oo (by decide)]; exact y1, fun t ht => by rw [xm_oo (by decide)]; exact y2 t ht, fun t ht k' hk' => by rw [xi_nk (by omega)]; exact y3 t ht k' hk'⟩
    have outer : ∀ r i, i + r = n → ∀ M', FrM M1 M' m [] [48, 49, 50] → x_i M' (m + 48) p = nI n → (∀ t, t < i → x_i M' (m + 50) (40 * p + t) = nI (mr' t)) → (∀ t, t < i → ∀ k, k < f → x_i M' (m + 49) (27 * (40 * p + t) + k) = nI (st' t k)) → RePk M1 M' m p → ∀ z, c1 z = true → LX12_becomes_27 G (d + 4) 0 0 m (nI p) (nI i) z M' Q := by
      intro r
      induction r with
      | zero =>
        intro i hi M' hfr hp1 hp2 hp3 hpk z hz
        have e : i = n := by omega
        subst e
        obtain ⟨q1, q2, q3⟩ := fr0 hfr
        refine vX12_becomes_27 _ _ _ _ hz ⟨q1.1, fun _ => ?_, fun c => absurd (by rw [q3.1]; exact nI_le (Nat.le_refl i) (by omega)) c⟩
        exact hQ M' (some (i, st', mr')) ((g1.wk (by decide) (by decide)).tr hfr (by decide) (by decide)) (fun p' f' mc hne hn' hf' hR => hpk p' f' mc hne hn' hf' (hR.fr g1 (by decide))) (Or.inl ⟨_, rfl, hcan, hn⟩) (fun mc e => by cases e; exact ⟨hp1, hp2, hp3⟩)
      | succ r ih =>
        intro i hi M' hfr hp1 hp2 hp3 hpk z hz
        obtain ⟨q1, q2, q3⟩ := fr0 hfr
        obtain ⟨l1, l2, sg, cl, l3, l4, l5⟩ := id q3
        obtain ⟨a1, a2, a3⟩ := l3 i (by omega)
        have e40 : (40 : Int32) * nI p + nI i = nI (40 * p + i) := by rw [show (40 : Int32) = nI 40 from rfl, pk_mul, nI_add]
        have hNN := h.2.2.2.2.2.1
        have vin : vp_in (nI (40 * p + i)) (x_h M' (m + 50)).2 := by rw [q1.h50]; exact vp_in_nI (show 40 * p + i < 5200 by omega) (by omega)
        have go : ∀ v : Int32, v = nI (mr' i) → LX12_becomes_68 G (d + 4) 0 0 m (nI p) (nI i) 0 (x_si M' (m + 50) (40 * p + i) v) Q := by
          intro v hv
          have g3 : FrM M' (x_si M' (m + 50) (40 * p + i) v) m [] [48, 49, 50] := FrM.rf.si (by decide) (by decide)
          refine inner i (by omega) (fun M3 z b1 b2 b3 b4 b5 hz => ih (i + 1) (by omega) M3 b1 b2 b3 b4 b5 z hz) f 0 (by omega) _ (hfr.tr g3 (by decide) (by decide)) (by rw [xm_oo (by decide)]; exact hp1) (fun t ht => ?_) (fun t ht k hk => by rw [xm_oo (by decide)]; exact hp3 t ht k hk) (fun k hk => absurd hk (Nat.not_lt_zero k)) (fun p' f' mc hne hn' hf' hR => ?_)
          · by_cases e : t = i
            · rw [e, xi_eq, hv]
            · rw [xi_nk (by omega)]; exact hp2 t (by omega)
          · obtain ⟨y1, y2, y3⟩ := hpk p' f' mc hne hn' hf' hR
            exact ⟨by rw [xm_oo (by decide)]; exact y1, fun t ht => by rw [xi_nk (by omega)]; exact y2 t ht, fun t ht k' hk' => by rw [xm_oo (by decide)]; exact y3 t ht k' hk'⟩
        refine vX12_becomes_27 _ _ _ _ hz ⟨q1.1, fun c => absurd (by rw [q3.1] at c; exact c) (nI_ge (a := i) (b := n) (by omega) (by omega)), fun _ => ⟨m + 50, q1.r50, m + 21, q1.r21, m + 25, q1.r25, by rw [q1.h25], by rw [q1.h25]; exact vp_in_nI (show i < 8400 by omega) (by omega), by rw [q1.h21], ?_, ?_⟩⟩
        · rw [nI_clamp (by omega), a1, q1.h21]; exact vp_in_nI (show sg i < 8400 by omega) (by omega)
        · rw [nI_clamp (by omega), a1, nI_clamp (by omega), (q2.2.2.2.1 _ a2).1, e40, ← a3]
          have h1 := hmr i (by omega)
          have e1 : nI (mr' i) = 1 ↔ mr' i = 1 := nI_eq (b := 1) (by omega) (by omega)
          refine ⟨fun c => ⟨by rw [q1.h50], vin, ?_⟩, fun c => ⟨by rw [q1.h50], vin, ?_⟩⟩
          · rintro M3 rfl
            rw [nI_clamp (by omega)]
            rw [e1] at c
            exact go 0 (by rw [show mr' i = 0 by omega]; rfl)
          · rintro M3 rfl
            rw [nI_clamp (by omega)]
            exact go 1 c.symm
    refine outer n 0 (by omega) _ g2 (by rw [xi_eq]) (fun t ht => absurd ht (Nat.not_lt_zero t)) (fun t ht => absurd ht (Nat.not_lt_zero t)) (fun p' f' mc hne hn' hf' hR => ?_) none rfl
    obtain ⟨y1, y2, y3⟩ := hR
    exact ⟨by rw [xi_nk hne]; exact y1, fun t ht => by rw [xm_oo (by decide)]; exact y2 t ht, fun t ht k' hk' => by rw [xm_oo (by decide)]; exact y3 t ht k' hk'⟩
  · rw [hl.1] at c
    have hn : 40 < n := by
      rcases Nat.lt_or_ge 40 n with q | q
      · exact q
      · exact absurd (nI_le (b := 40) q (by omega)) c
    exact hQ M1 none (g1.wk (by decide) (by decide)) (fun p' f' mc hne hn' hf' hR => hR.fr g1 (by decide)) (Or.inr ⟨rfl, fun mc hmc => by have := (mcan_one hf hmc (m' := (n, st', mr')) hcan).1; rw [this]; exact hn⟩) (fun mc e => by cases e)
/-- the machine of a row, as the reference holds it -/
def ReR (M : Mem) (m r b : Nat) (mc : Mc) : Prop := x_i M (m + 2) r = nI (m_n mc) ∧ (∀ i, i < m_n mc → x_i M (m + 4) (60 * r + i) = nI (m_k mc i)) ∧ ∀ i, i < m_n mc → ∀ k, k < b → x_i M (m + 3) (3 * (60 * r + i) + k) = nI (m_s mc i k)
theorem ReR.fr {M' : Mem} {r b : Nat} {mc : Mc} {F A : List Nat} (h : ReR M m r b mc) (g : FrM M M' m F A) (h1 : 2 ∉ A ∧ 3 ∉ A ∧ 4 ∉ A) : ReR M' m r b mc := by
  unfold ReR
  rw [g.i (by decide) h1.1, g.i (by decide) h1.2.1, g.i (by decide) h1.2.2]
  exact h
theorem ur_newRow (d : Nat) (hs : ReS M m) {N b n rc kd : Nat} {st : Nat → Nat → Nat} {mk : Nat → Nat} {st' : Nat → Nat → Nat} {mr' : Nat → Nat} (h : RaI M m N b st mk) (hl : LsI M m N b st mk n st' mr') (hb : x_i M m 0 = nI b) (hb3 : b ≤ 3) (hrc : x_i M m 1 = nI rc) (hr10 : rc < 10) (hn : n ≤ 60)
    (hQ : ∀ M', FrM M M' m [1, 22] [1, 2, 3, 4] → x_i M' m 1 = nI (rc + 1) → x_i M' m 22 = 0 → x_i M' (m + 1) rc = nI kd → (∀ r, r ≠ rc → x_i M' (m + 1) r = x_i M (m + 1) r) → ReR M' m rc b (n, st', mr') → (∀ r mc, r ≠ rc → m_n mc ≤ 60 → ReR M m r b mc → ReR M' m r b mc) → Q (some (.int (nI rc))) M') : Call G (d + 3) 0 0 mX12_newRow [.ref m, .int (nI kd)] M Q := by
  refine eX12_newRow m _ ⟨hs.1, m + 1, hs.r1, by rw [hs.h1], by rw [hrc, hs.h1]; exact vp_in_nI hr10 (by omega), ?_⟩
  rintro M1 rfl
  rw [hrc, nI_clamp (by omega)]
  refine ⟨m + 2, hs.r2, by show (x_h M _).1 = 1; rw [hs.h2], by rw [xm_mo (by decide), hrc]; show vp_in _ (x_h M _).2; rw [hs.h2]; exact vp_in_nI hr10 (by omega), ?_⟩
  rintro M2 rfl
  rw [xm_mo (by decide), xm_mo (by decide), hrc, hl.1, nI_clamp (by omega)]
  have hN := h.2.2.2.2.2.1
  have g0 : FrM M (x_si (x_si M (m + 1) rc (nI kd)) (m + 2) rc (nI n)) m [1, 22] [1, 2, 3, 4] := (FrM.rf.si (by decide) (by decide)).si (by decide) (by decide)
  have fr0 : ∀ {M' : Mem}, FrM M M' m [] [1, 2, 3, 4] → ReS M' m ∧ RaI M' m N b st mk ∧ LsI M' m N b st mk n st' mr' ∧ x_i M' m 0 = nI b ∧ x_i M' m 1 = nI rc := fun q => ⟨q.S hs, h.fr q (by decide) (by decide), hl.fr q (by decide) (by decide), by rw [q.fm (by decide)]; exact hb, by rw [q.fm (by decide)]; exact hrc⟩
  have inner : ∀ i, i < n → (∀ M' z, FrM M M' m [] [1, 2, 3, 4] → (x_i M' (m + 1) rc = nI kd ∧ ∀ r, r ≠ rc → x_i M' (m + 1) r = x_i M (m + 1) r) → x_i M' (m + 2) rc = nI n → (∀ t, t < i + 1 → x_i M' (m + 4) (60 * rc + t) = nI (mr' t)) → (∀ t, t < i + 1 → ∀ k, k < b → x_i M' (m + 3) (3 * (60 * rc + t) + k) = nI (st' t k)) → (∀ r mc, r ≠ rc → m_n mc ≤ 60 → ReR M m r b mc → ReR M' m r b mc) → c1 z = true → LX12_newRow_25 G (d + 2) 0 0 m (nI kd) (nI (i + 1)) z M' Q) →
      ∀ r k, k + r = b → ∀ M', FrM M M' m [] [1, 2, 3, 4] → (x_i M' (m + 1) rc = nI kd ∧ ∀ r, r ≠ rc → x_i M' (m + 1) r = x_i M (m + 1) r) → x_i M' (m + 2) rc = nI n → (∀ t, t < i + 1 → x_i M' (m + 4) (60 * rc + t) = nI (mr' t)) → (∀ t, t < i → ∀ k, k < b → x_i M' (m + 3) (3 * (60 * rc + t) + k) = nI (st' t k)) → (∀ k', k' < k → x_i M' (m + 3) (3 * (60 * rc + i) + k') = nI (st' i k')) → (∀ r mc, r ≠ rc → m_n mc ≤ 60 → ReR M m r b mc → ReR M' m r b mc) → LX12_newRow_60 G (d + 2) 0 0 m (nI kd) (nI i) (nI k) M' Q := by
    intro i hi hout r
    induction r with
    | zero =>
      intro k hk M' hfr h0 h1 h2 h3 h4 hpk
      have e : k = b := by omega
      subst e
      obtain ⟨q1, q2, q3, q4, q5⟩ := fr0 hfr
      refine vX12_newRow_60 _ _ _ _ ⟨q1.1, fun _ => ?_, fun c => absurd (by rw [q4]; exact nI_le (Nat.le_refl k) (by omega)) c⟩
      rw [nI_1]
      refine hout M' _ hfr h0 h1 h2 (fun t ht k' hk' => ?_) hpk rfl
      by_cases e : t = i
      · rw [e]; exact h4 k' hk'
      · exact h3 t (by omega) k' hk'
    | succ r ih =>
      intro k hk M' hfr h0 h1 h2 h3 h4 hpk
      obtain ⟨q1, q2, q3, q4, q5⟩ := fr0 hfr
      have e60 : (3 : Int32) * (60 * nI rc + nI i) + nI k = nI (3 * (60 * rc + i) + k) := by rw [show (60 : Int32) = nI 60 from rfl, pk_mul, nI_add, show (3 : Int32) = nI 3 from rfl, pk_mul, nI_add]
      refine vX12_newRow_60 _ _ _ _ ⟨q1.1, fun c => absurd (by rw [q4] at c; exact c) (nI_ge (a := k) (b := b) (by omega) (by omega)), fun _ => ⟨m + 3, q1.r3, ?_⟩⟩
      refine ur_stepOf (d + 1) q1 q2 q3 hi (by omega) ⟨_, rfl, by rw [q1.h3], by rw [q5, e60, q1.h3]; exact vp_in_nI (show 3 * (60 * rc + i) + k < 1800 by omega) (by omega), ?_⟩
      rintro M3 rfl
      rw [q5, e60, nI_clamp (by omega), nI_1]
      have g3 : FrM M' (x_si M' (m + 3) (3 * (60 * rc + i) + k) (nI (st' i k))) m [] [1, 2, 3, 4] := FrM.rf.si (by decide) (by decide)
      refine ih (k + 1) (by omega) _ (hfr.tr g3 (by decide) (by decide)) ⟨by rw [xm_oo (by decide)]; exact h0.1, fun r hr => by rw [xm_oo (by decide)]; exact h0.2 r hr⟩ (by rw [xm_oo (by decide)]; exact h1) (fun t ht => by rw [xm_oo (by decide)]; exact h2 t ht) (fun t ht k' hk' => by rw [xi_nk (by omega)]; exact h3 t ht k' hk') (fun k' hk' => ?_) (fun r' mc hne hn' hR => ?_)
      · by_cases e : k' = k
        · rw [e, xi_eq]
        · rw [xi_nk (by omega)]; exact h4 k' (by omega)
      · obtain ⟨y1, y2, y3⟩ := hpk r' mc hne hn' hR
        exact ⟨by rw [xm_oo (by decide)]; exact y1, fun t ht => by rw [xm_oo (by decide)]; exact y2 t ht, fun t ht k' hk' => by rw [xi_nk (by omega)]; exact y3 t ht k' hk'⟩
  have outer : ∀ r i, i + r = n → ∀ M', FrM M M' m [] [1, 2, 3, 4] → (x_i M' (m + 1) rc = nI kd ∧ ∀ r, r ≠ rc → x_i M' (m + 1) r = x_i M (m + 1) r) → x_i M' (m + 2) rc = nI n → (∀ t, t < i → x_i M' (m + 4) (60 * rc + t) = nI (mr' t)) → (∀ t, t < i → ∀ k, k < b → x_i M' (m + 3) (3 * (60 * rc + t) + k) = nI (st' t k)) → (∀ r mc, r ≠ rc → m_n mc ≤ 60 → ReR M m r b mc → ReR M' m r b mc) → ∀ z, c1 z = true → LX12_newRow_25 G (d + 2) 0 0 m (nI kd) (nI i) z M' Q := by
    intro r
    induction r with
    | zero =>
      intro i hi M' hfr h0 h1 h2 h3 hpk z hz
      have e : i = n := by omega
      subst e
      obtain ⟨q1, q2, q3, q4, q5⟩ := fr0 hfr
      refine vX12_newRow_25 _ _ _ _ hz ⟨q1.1, fun _ => ?_, fun c => absurd (by rw [q3.1]; exact nI_le (Nat.le_refl i) (by omega)) c⟩
      rintro M3 rfl
      rw [q5, xi_eq, nI_1, nI_pred]
      have g3 : FrM M' (x_si M' m 1 (nI (rc + 1))) m [1, 22] [1, 2, 3, 4] := FrM.rf.sm (by decide)
      refine u_done (d + 1) (g3.S q1) ⟨_, rfl, ?_⟩
      have g4 := g3.sm (k := 22) (v := 0) (by decide)
      have hx : ∀ o, o ≠ 0 → x_i (x_si (x_si M' m 1 (nI (rc + 1))) m 22 0) (m + o) = x_i M' (m + o) := fun o ho => by funext j; rw [xm_om ho, xm_om ho]
      refine hQ _ ((hfr.wk (by decide) (by decide)).tr g4 (by decide) (by decide)) (by rw [xi_nk (by omega), xi_eq]) (by rw [xi_eq]) (by rw [hx 1 (by decide)]; exact h0.1) (fun r hr => by rw [hx 1 (by decide)]; exact h0.2 r hr) ?_ (fun r mc hne hn' hR => ?_)
      · unfold ReR
        rw [hx 2 (by decide), hx 3 (by decide), hx 4 (by decide)]
        exact ⟨h1, h2, h3⟩
      · have := hpk r mc hne hn' hR
        unfold ReR at this ⊢
        rw [hx 2 (by decide), hx 3 (by decide), hx 4 (by decide)]
        exact this
    | succ r ih =>
      intro i hi M' hfr h0 h1 h2 h3 hpk z hz
      obtain ⟨q1, q2, q3, q4, q5⟩ := fr0 hfr
      obtain ⟨l1, l2, sg, cl, l3, l4, l5⟩ := id q3
      obtain ⟨a1, a2, a3⟩ := l3 i (by omega)
      have e60 : (60 : Int32) * nI rc + nI i = nI (60 * rc + i) := by rw [show (60 : Int32) = nI 60 from rfl, pk_mul, nI_add]
      refine vX12_newRow_25 _ _ _ _ hz ⟨q1.1, fun c => absurd (by rw [q3.1] at c; exact c) (nI_ge (a := i) (b := n) (by omega) (by omega)), fun _ => ⟨m + 4, q1.r4, m + 21, q1.r21, m + 25, q1.r25, by rw [q1.h25], by rw [q1.h25]; exact vp_in_nI (show i < 8400 by omega) (by omega), by rw [q1.h21], ?_, by rw [q1.h4], ?_, ?_⟩⟩
      · rw [nI_clamp (by omega), a1, q1.h21]; exact vp_in_nI (show sg i < 8400 by omega) (by omega)
      · rw [q5, e60, q1.h4]; exact vp_in_nI (show 60 * rc + i < 600 by omega) (by omega)
      · rintro M3 rfl
        rw [q5, e60, nI_clamp (by omega), nI_clamp (by omega), a1, nI_clamp (by omega), (q2.2.2.2.1 _ a2).1, ← a3]
        have g3 : FrM M' (x_si M' (m + 4) (60 * rc + i) (nI (mr' i))) m [] [1, 2, 3, 4] := FrM.rf.si (by decide) (by decide)
        refine inner i (by omega) (fun M4 z b1 b2 b3 b4 b5 b6 hz => ih (i + 1) (by omega) M4 b1 b2 b3 b4 b5 b6 z hz) b 0 (by omega) _ (hfr.tr g3 (by decide) (by decide)) ⟨by rw [xm_oo (by decide)]; exact h0.1, fun r hr => by rw [xm_oo (by decide)]; exact h0.2 r hr⟩ (by rw [xm_oo (by decide)]; exact h1) (fun t ht => ?_) (fun t ht k hk => by rw [xm_oo (by decide)]; exact h3 t ht k hk) (fun k hk => absurd hk (Nat.not_lt_zero k)) (fun r' mc hne hn' hR => ?_)
        · by_cases e : t = i
          · rw [e, xi_eq]
          · rw [xi_nk (by omega)]; exact h2 t (by omega)
        · obtain ⟨y1, y2, y3⟩ := hpk r' mc hne hn' hR
          exact ⟨by rw [xm_oo (by decide)]; exact y1, fun t ht => by rw [xi_nk (by omega)]; exact y2 t ht, fun t ht k' hk' => by rw [xm_oo (by decide)]; exact y3 t ht k' hk'⟩
  refine outer n 0 (by omega) _ ((FrM.rf.si (by decide) (by decide)).si (by decide) (by decide)) ⟨by rw [xm_oo (by decide), xi_eq], fun r hr => by rw [xm_oo (by decide), xi_nk hr]⟩ (by rw [xi_eq]) (fun t ht => absurd ht (Nat.not_lt_zero t)) (fun t ht => absurd ht (Nat.not_lt_zero t)) (fun r mc hne hn' hR => ?_) none rfl
  obtain ⟨y1, y2, y3⟩ := hR
  exact ⟨by rw [xi_nk hne, xm_oo (by decide)]; exact y1, fun t ht => by rw [xm_oo (by decide), xm_oo (by decide)]; exact y2 t ht, fun t ht k' hk' => by rw [xm_oo (by decide), xm_oo (by decide)]; exact y3 t ht k' hk'⟩
/-! pairs -/
/-- pairs x * 60 + y, as they are met -/
def PrI (M : Mem) (m : Nat) (K : List Nat) : Prop := x_i M m 25 = nI K.length ∧ Tab M (m + 27) 3600 K ∧ (∀ t, t < K.length → x_i M (m + 28) t = nI (K.getD t 0 / 60) ∧ x_i M (m + 29) t = nI (K.getD t 0 % 60)) ∧ (∀ x ∈ K, x < 3600) ∧ K.Nodup
theorem PrI.len {K : List Nat} (h : PrI M m K) : K.length ≤ 3600 := nd_len 3600 K h.2.2.2.2 h.2.2.2.1
theorem PrI.fr {M' : Mem} {K : List Nat} {F A : List Nat} (h : PrI M m K) (g : FrM M M' m F A) (h0 : 25 ∉ F) (h1 : 27 ∉ A ∧ 28 ∉ A ∧ 29 ∉ A) : PrI M' m K := by
  unfold PrI Tab
  rw [g.fm h0, g.i (by decide) h1.1, g.i (by decide) h1.2.1, g.i (by decide) h1.2.2]
  exact h
theorem ur_paired (d : Nat) (hs : ReS M m) {K : List Nat} (h : PrI M m K) {x y : Nat} (hx : x < 60) (hy : y < 60) (hQ : ∀ M', FrM M M' m [25] [27, 28, 29] → PrI M' m (ins K (x * 60 + y)) → Q (some (.int (nI ((ins K (x * 60 + y)).idxOf (x * 60 + y))))) M') : Call G (d + 1) 0 0 mX12_paired [.ref m, .int (nI x), .int (nI y)] M Q := by
  have hlen := h.len
  have h0 := h
  obtain ⟨h1, h2, h3, h4, h5⟩ := h
  have hk : x * 60 + y < 3600 := by omega
  have e60 : (60 : Int32) * nI x + nI y = nI (x * 60 + y) := by rw [show (60 : Int32) = nI 60 from rfl, pk_mul, nI_add, Nat.mul_comm]
  have hid := h2 _ hk
  refine eX12_paired m _ _ ⟨hs.1, m + 27, hs.r27, by rw [hs.h27], by rw [e60, hs.h27]; exact vp_in_nI hk (by omega), ?_⟩
  rw [e60, nI_clamp (by omega), hid]
  by_cases c : x * 60 + y ∈ K
  · rw [if_pos c]
    have e : ins K (x * 60 + y) = K := if_pos c
    rw [e] at hQ
    exact ⟨fun _ => hQ M FrM.rf h0, fun q => absurd q (nI_m1 (by have := idx_lt c; omega))⟩
  · rw [if_neg c]
    have e : ins K (x * 60 + y) = K ++ [x * 60 + y] := if_neg c
    have hl2 : K.length < 3600 := by
      have := nd_len 3600 ((x * 60 + y) :: K) (List.nodup_cons.mpr ⟨c, h5⟩) (fun z hz => (List.mem_cons.mp hz).elim (fun e => e ▸ hk) (h4 z))
      rw [List.length_cons] at this
      omega
    refine ⟨fun q => absurd rfl q, fun _ => ?_⟩
    rintro M6 rfl
    refine ⟨m + 28, hs.r28, by show (x_h M _).1 = 1; rw [hs.h28], by rw [xm_mo (by decide), h1]; show vp_in _ (x_h M _).2; rw [hs.h28]; exact vp_in_nI (show K.length < 8400 by omega) (by omega), ?_⟩
    rintro M10 rfl
    rw [xm_mo (by decide), h1, nI_clamp (by omega)]
    refine ⟨m + 29, hs.r29, by show (x_h M _).1 = 1; rw [hs.h29], by rw [xm_mo (by decide), xm_mo (by decide), h1]; show vp_in _ (x_h M _).2; rw [hs.h29]; exact vp_in_nI (show K.length < 8400 by omega) (by omega), ?_⟩
    rintro M14 rfl M15 rfl
    have hm1 : ∀ (v1 v2 v3 : Int32), x_i (x_si (x_si (x_si M (m + 27) (x * 60 + y) v1) (m + 28) K.length v2) (m + 29) K.length v3) m 25 = nI K.length := fun v1 v2 v3 => by rw [xm_mo (by decide), xm_mo (by decide), xm_mo (by decide)]; exact h1
    rw [xm_mo (by decide), xm_mo (by decide), h1, nI_clamp (by omega), hm1, nI_1]
    have g1 : FrM M (x_si M (m + 27) (x * 60 + y) (nI K.length)) m [25] [27, 28, 29] := FrM.rf.si (by decide) (by decide)
    have g4 := ((g1.si (o := 28) (k := K.length) (v := nI x) (by decide) (by decide)).si (o := 29) (k := K.length) (v := nI y) (by decide) (by decide)).sm (k := 25) (v := nI (K.length + 1)) (by decide)
    have hgo := hQ _ g4 (by
      rw [e]
      have hin := h2.add c
      have e' : ins K (x * 60 + y) = K ++ [x * 60 + y] := if_neg c
      rw [e'] at hin
      refine ⟨by rw [xi_eq, List.length_append]; rfl, hin.to (by funext j; rw [xm_om (by decide), xm_oo (by decide), xm_oo (by decide)]), fun t ht => ?_, fun z hz => ?_, List.nodup_append.mpr ⟨h5, by simp, fun a ha b' hb' e => c (by rw [List.mem_singleton] at hb'; rw [← hb', ← e]; exact ha)⟩⟩
      · rw [List.length_append] at ht
        simp at ht
        rw [xm_om (by decide), xm_oo (by decide), xm_om (by decide)]
        by_cases et : t = K.length
        · rw [et, xi_eq, xi_eq, getD_last]
          exact ⟨by congr 1; omega, by congr 1; omega⟩
        · rw [xi_nk et, xi_nk et, xm_oo (by decide), xm_oo (by decide), xm_oo (by decide), getD_app (by omega)]
          exact h3 t (by omega)
      · rcases List.mem_append.mp hz with q | q
        · exact h4 z q
        · rw [List.mem_singleton.mp q]; exact hk)
    have ei : (ins K (x * 60 + y)).idxOf (x * 60 + y) = K.length := by
      rw [e, List.idxOf_append, if_neg c]; simp
    rw [ei] at hgo
    rw [xm_om (by decide), xm_oo (by decide), xm_oo (by decide), xi_eq]
    exact hgo
theorem ur_noPairs (d : Nat) (hs : ReS M m) (hQ : ∀ M', FrM M M' m [25] [27, 28, 29] → PrI M' m [0] → Q none M') : Call G (d + 2) 0 0 mX12_noPairs [.ref m] M Q := by
  refine eX12_noPairs m ⟨hs.1, ?_⟩
  rintro M1 rfl
  have key : ∀ r k, k + r = 3600 → ∀ M', FrM M M' m [25] [27, 28, 29] → x_i M' m 25 = nI 0 → (∀ j, j < k → x_i M' (m + 27) j = -1) → LX12_noPairs_7 G (d + 1) 0 0 m (nI k) M' Q := by
    intro r
    induction r with
    | zero =>
      intro k hk M' hfr h25 hc
      have e : k = 3600 := by omega
      subst e
      refine vX12_noPairs_7 _ _ ⟨fun _ => ⟨(hfr.S hs).1, ?_⟩, fun c => absurd (nI_le (Nat.le_refl 3600) (by omega)) c⟩
      refine ur_paired (x := 0) (y := 0) (K := []) d (hfr.S hs) ⟨h25, fun j hj => by rw [if_neg List.not_mem_nil]; exact hc j hj, fun t ht => absurd ht (Nat.not_lt_zero t), fun z hz => absurd hz List.not_mem_nil, List.nodup_nil⟩ (by omega) (by omega) (fun M2 g1 g2 => ⟨_, rfl, hQ M2 (hfr.tr g1 (by decide) (by decide)) g2⟩)
    | succ r ih =>
      intro k hk M' hfr h25 hc
      have hs' := hfr.S hs
      refine vX12_noPairs_7 _ _ ⟨fun c => absurd c (nI_ge (a := k) (b := 3600) (by omega) (by omega)), fun _ => ⟨hs'.1, m + 27, hs'.r27, by rw [hs'.h27], by rw [hs'.h27]; exact vp_in_nI (show k < 3600 by omega) (by omega), ?_⟩⟩
      rintro M2 rfl
      rw [nI_clamp (by omega), nI_1]
      refine ih (k + 1) (by omega) _ (hfr.si (by decide) (by decide)) (by rw [xm_mo (by decide)]; exact h25) (fun j hj => ?_)
      by_cases e : j = k
      · rw [e, xi_eq]
      · rw [xi_nk e]; exact hc j (by omega)
  exact key 3600 0 (by omega) _ (FrM.rf.sm (by decide)) (by rw [xi_eq]; rfl) (fun j hj => absurd hj (Nat.not_lt_zero j))
end RExplC
