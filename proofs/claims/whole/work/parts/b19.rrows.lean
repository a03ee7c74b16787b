/-! ===== the reference: rows grown, rings ===== -/
section RRowsC
variable {G : GG} {M : Mem} {m b : Nat} {Q : Option Value → Mem → Prop}
theorem rn_dl {st : Nat → Nat → Nat} : ∀ (u : List Nat) (q : Nat), rn st q u = dl st q u
  | [], _ => rfl
  | d :: u, q => by
    show rn st (st q d) u = dl st (st q d) u
    exact rn_dl u _
/-- a new row stands -/
def NewR (M M' : Mem) (m rc kd b : Nat) (mc : Mc) : Prop := x_i M' m 1 = nI (rc + 1) ∧ x_i M' m 22 = 0 ∧ x_i M' (m + 1) rc = nI kd ∧ (∀ r, r ≠ rc → x_i M' (m + 1) r = x_i M (m + 1) r) ∧ ReR M' m rc b mc ∧ ∀ r mc', r ≠ rc → m_n mc' ≤ 60 → ReR M m r b mc' → ReR M' m r b mc'
theorem ur_drawRow (d : Nat) (hs : ReS M m) {N rc kd : Nat} {st : Nat → Nat → Nat} {mk : Nat → Nat} {β : List Nat → Nat} (h : RaI M m N b st mk) (h0 : x_i M m 0 = nI b) (hb3 : b ≤ 3) (hrc : x_i M m 1 = nI rc) (hr10 : rc < 10) (hN : N ≤ 60) (hβ : ∀ u, wd b u → mk (rn st 0 u) = β u)
    (hQ : ∀ M' mc, FrM M M' m [1, 22, 29] [1, 2, 3, 4, 22, 23, 24, 25, 26] → mcan b mc β → m_n mc ≤ 60 → NewR M M' m rc kd b mc → Q (some (.int (nI rc))) M') :
    Call G (d + 4) 0 0 mX12_least [.ref m] M (fun r3 M4 => r3 = none ∧ (x_h M4 m).1 = 28 ∧ Call G (d + 4) 0 0 mX12_newRow [.ref m, .int (nI kd)] M4 (fun r6 M7 => ∃ v8 : Int32, r6 = some (.int v8) ∧ Q (some (.int v8)) M7)) := by
  refine ur_least d hs h (fun M1 n st' mr' g1 hl hcan => ⟨rfl, (g1.S hs).1, ?_⟩)
  have hn : n ≤ 60 := Nat.le_trans hl.2.1 hN
  refine ur_newRow (d + 1) (g1.S hs) (h.fr g1 (by decide) (by decide)) hl (by rw [g1.fm (by decide)]; exact h0) hb3 (by rw [g1.fm (by decide)]; exact hrc) hr10 hn (fun M' g2 n1 n2 n3 n4 n5 n6 => ⟨_, rfl, ?_⟩)
  exact hQ M' (n, st', mr') ((g1.wk (by decide) (by decide)).tr g2 (by decide) (by decide)) (Can.congr hcan hβ) hn ⟨n1, n2, n3, fun r hr => (n4 r hr).trans (by rw [g1.i (by decide) (by decide)]), n5, fun r mc' hr hm hR => n6 r mc' hr hm (hR.fr g1 (by decide))⟩
/-- the marks and the links written so far -/
def FiI (M : Mem) (m b : Nat) (st : Nat → Nat → Nat) (mk : Nat → Nat) (a k : Nat) : Prop := (∀ i, i < a → x_i M (m + 21) i = nI (mk i)) ∧ ∀ i d, d < b → i * b + d < k → x_i M (m + 20) (27 * i + d) = nI (st i d)
theorem FiI.start {st : Nat → Nat → Nat} {mk : Nat → Nat} : FiI M m b st mk 0 0 := ⟨fun i h => absurd h (Nat.not_lt_zero i), fun i d _ h => absurd h (Nat.not_lt_zero _)⟩
theorem FiI.mark {st : Nat → Nat → Nat} {mk : Nat → Nat} {a k : Nat} {v : Int32} (h : FiI M m b st mk a k) (hv : v = nI (mk a)) : FiI (x_si M (m + 21) a v) m b st mk (a + 1) k := by
  refine ⟨fun i hi => ?_, fun i d hd hk => by rw [xm_oo (by decide)]; exact h.2 i d hd hk⟩
  by_cases e : i = a
  · rw [e, xi_eq, hv]
  · rw [xi_nk e]; exact h.1 i (by omega)
theorem FiI.link {st : Nat → Nat → Nat} {mk : Nat → Nat} {a i d : Nat} {v : Int32} (h : FiI M m b st mk a (i * b + d)) (hb3 : b ≤ 3) (hd : d < b) (hv : v = nI (st i d)) : FiI (x_si M (m + 20) (27 * i + d) v) m b st mk a (i * b + d + 1) := by
  refine ⟨fun i' hi => by rw [xm_oo (by decide)]; exact h.1 i' hi, fun i' d' hd' hk => ?_⟩
  by_cases e : i' = i ∧ d' = d
  · rw [e.1, e.2, xi_eq, hv]
  · have e2 : 27 * i' + d' ≠ 27 * i + d := fun q => e (by omega)
    rw [xi_nk e2]
    refine h.2 i' d' hd' ?_
    have e3 : i' * b + d' ≠ i * b + d := fun q => by
      have h1 : (i' * b + d') / b = i' := by rw [Nat.mul_comm, Nat.mul_add_div (by omega), Nat.div_eq_of_lt hd']; rfl
      have h2 : (i * b + d) / b = i := by rw [Nat.mul_comm, Nat.mul_add_div (by omega), Nat.div_eq_of_lt hd]; rfl
      have h3 : i' = i := by rw [← h1, q, h2]
      subst h3
      exact e ⟨rfl, by omega⟩
    omega
theorem FiI.raw {st : Nat → Nat → Nat} {mk : Nat → Nat} {N : Nat} (h : FiI M m b st mk N (N * b)) (hb : 0 < b) (hb3 : b ≤ 3) (h25 : x_i M m 25 = nI N) (h26 : x_i M m 26 = nI b) (hN0 : 0 < N) (hN : N ≤ 60) (hst : ∀ i, i < N → ∀ d, d < b → st i d < N) (hmk : ∀ i, i < N → mk i < 2 ^ 20) : RaI M m N b st mk := by
  refine ⟨h25, h26, fun i hi d hd => ⟨h.2 i d hd ?_, hst i hi d hd⟩, fun i hi => ⟨h.1 i hi, hmk i hi⟩, hN0, by omega, hb, by omega⟩
  have : (i + 1) * b ≤ N * b := Nat.mul_le_mul_right b hi
  rw [Nat.succ_mul] at this
  omega
theorem FiI.fr {M' : Mem} {st : Nat → Nat → Nat} {mk : Nat → Nat} {a k : Nat} {F A : List Nat} (h : FiI M m b st mk a k) (g : FrM M M' m F A) (h1 : 20 ∉ A ∧ 21 ∉ A) : FiI M' m b st mk a k := by
  unfold FiI
  rw [g.i (by decide) h1.1, g.i (by decide) h1.2]
  exact h
theorem ur_bGrown (d : Nat) (hs : ReS M m) (hb1 : 1 < b) (hb3 : b ≤ 3) (h0 : x_i M m 0 = nI b) {n s rc : Nat} {sf : Nat → Nat} {x2 : Int32} (hn : 0 < n) (hn8 : n ≤ 8) (hs6 : s < 6) (hsf : ∀ t, t < n * b → x_i M (m + 18) (40 * s + t) = nI (sf t) ∧ sf t < n) (h25 : x_i M m 25 = nI n) (h26 : x_i M m 26 = nI b) (hrc : x_i M m 1 = nI rc) (hr10 : rc < 10)
    (hQ : ∀ M' mc, FrM M M' m [1, 22, 29] [1, 2, 3, 4, 20, 21, 22, 23, 24, 25, 26] → mcan b mc (fun u => dl (grD b sf) 0 u) → m_n mc ≤ 60 → NewR M M' m rc 1 b mc → Q (some (.int (nI rc))) M') :
    LX12_grown_157 G (d + 4) 0 0 m (nI s) x2 (nI n) (nI 0) none M Q := by
  have hnb : n * b ≤ 24 := by
    have : n * b ≤ 8 * 3 := Nat.mul_le_mul hn8 hb3
    omega
  have hlt : ∀ i, i < n → ∀ k, k < b → i * b + k < n * b := fun i hi k hk => by
    have : (i + 1) * b ≤ n * b := Nat.mul_le_mul_right b hi
    rw [Nat.succ_mul] at this
    omega
  have fr0 : ∀ {M' : Mem}, FrM M M' m [] [20, 21] → ReS M' m ∧ x_i M' m 0 = nI b ∧ x_i M' m 25 = nI n ∧ x_i M' m 26 = nI b ∧ x_i M' m 1 = nI rc := fun g => ⟨g.S hs, by rw [g.fm (by decide)]; exact h0, by rw [g.fm (by decide)]; exact h25, by rw [g.fm (by decide)]; exact h26, by rw [g.fm (by decide)]; exact hrc⟩
  have inner : ∀ i, i < n → (∀ M' z, c1 z = true → FrM M M' m [] [20, 21] → FiI M' m b (grD b sf) (fun x => x) (i + 1) (i * b + b) → LX12_grown_157 G (d + 4) 0 0 m (nI s) x2 (nI n) (nI (i + 1)) z M' Q) → ∀ r k, k + r = b → ∀ M', FrM M M' m [] [20, 21] → FiI M' m b (grD b sf) (fun x => x) (i + 1) (i * b + k) → LX12_grown_175 G (d + 4) 0 0 m (nI s) x2 (nI n) (nI i) (nI k) M' Q := by
    intro i hi hout r
    induction r with
    | zero =>
      intro k hk M' hfr hfi
      have e : k = b := by omega
      subst e
      obtain ⟨q1, q2, -⟩ := fr0 hfr
      refine vX12_grown_175 _ _ _ _ _ _ ⟨q1.1, fun _ => ?_, fun c => absurd (by rw [q2]; exact nI_le (Nat.le_refl _) (by omega)) c⟩
      rw [nI_1]
      exact hout M' _ rfl hfr hfi
    | succ r ih =>
      intro k hk M' hfr hfi
      obtain ⟨q1, q2, -⟩ := fr0 hfr
      have hl := hlt i hi k (by omega)
      refine vX12_grown_175 _ _ _ _ _ _ ⟨q1.1, fun c => absurd (by rw [q2] at c; exact c) (nI_ge (a := k) (b := b) (by omega) (by omega)), fun _ => ⟨m + 20, q1.r20, m + 18, q1.r18, by rw [q1.h18], ?_⟩⟩
      have ec : (40 : Int32) * nI s + nI b * nI i + nI k = nI (40 * s + (i * b + k)) := by rw [pk_mul, e40_, nI_add, Nat.mul_comm b i, Nat.add_assoc]
      obtain ⟨f1, f2⟩ := hsf _ hl
      rw [q2, ec, nI_clamp (by omega), hfr.i (o := 18) (by decide) (by decide), f1, e27_]
      refine ⟨by rw [q1.h18]; exact vp_in_nI (show 40 * s + (i * b + k) < 240 by omega) (by omega), by rw [q1.h20], by rw [q1.h20]; exact vp_in_nI (show 27 * i + k < 226800 by omega) (by omega), ?_⟩
      rintro M3 rfl
      rw [nI_clamp (by omega), nI_1]
      exact ih (k + 1) (by omega) _ (hfr.si (by decide) (by decide)) (hfi.link hb3 (by omega) rfl)
  have outer : ∀ r i, i + r = n → ∀ M', FrM M M' m [] [20, 21] → FiI M' m b (grD b sf) (fun x => x) i (i * b) → ∀ z, c1 z = true → LX12_grown_157 G (d + 4) 0 0 m (nI s) x2 (nI n) (nI i) z M' Q := by
    intro r
    induction r with
    | zero =>
      intro i hi M' hfr hfi z hz
      have e : i = n := by omega
      subst e
      obtain ⟨q1, q2, q3, q4, q5⟩ := fr0 hfr
      refine vX12_grown_157 _ _ _ _ _ _ hz ⟨fun _ => ⟨q1.1, ?_⟩, fun c => absurd (nI_le (Nat.le_refl _) (by omega)) c⟩
      refine ur_drawRow d q1 (kd := 1) (hfi.raw (by omega) hb3 q3 q4 hn (by omega) (fun a ha k hk => (hsf _ (hlt a ha k hk)).2) (fun a ha => by show a < 2 ^ 20; omega)) q2 hb3 q5 hr10 (by omega) (fun u hu => rn_dl u 0) (fun M1 mc g1 g2 g3 g4 => ?_)
      exact hQ M1 mc ((hfr.wk (by decide) (by decide)).tr g1 (by decide) (by decide)) g2 g3 ⟨g4.1, g4.2.1, g4.2.2.1, fun r hr => (g4.2.2.2.1 r hr).trans (by rw [hfr.i (by decide) (by decide)]), g4.2.2.2.2.1, fun r mc' h1 h2 h3 => g4.2.2.2.2.2 r mc' h1 h2 (h3.fr hfr (by decide))⟩
    | succ r ih =>
      intro i hi M' hfr hfi z hz
      obtain ⟨q1, q2, q3, q4, q5⟩ := fr0 hfr
      refine vX12_grown_157 _ _ _ _ _ _ hz ⟨fun c => absurd c (nI_ge (a := i) (b := n) (by omega) (by omega)), fun _ => ⟨q1.1, m + 21, q1.r21, by rw [q1.h21], by rw [q1.h21]; exact vp_in_nI (show i < 8400 by omega) (by omega), ?_⟩⟩
      rintro M3 rfl
      rw [nI_clamp (by omega)]
      exact inner i (by omega) (fun M4 z hz b1 b2 => ih (i + 1) (by omega) M4 b1 (by rw [Nat.succ_mul]; exact b2) z hz) b 0 (Nat.zero_add b) _ (hfr.si (by decide) (by decide)) (hfi.mark rfl)
  exact outer n 0 (Nat.zero_add n) M FrM.rf (by rw [Nat.zero_mul]; exact FiI.start) none rfl
theorem riD_lt {s l x g : Nat} (hl : 0 < l) : riD b s l x g < s + l := by
  unfold riD
  split
  · assumption
  · have := Nat.mod_lt (x * b + g - s) hl
    omega
theorem ur_bRing (d : Nat) (hs : ReS M m) (hb1 : 1 < b) (hb3 : b ≤ 3) (h0 : x_i M m 0 = nI b) {s l sh rc : Nat} {lf : Nat → Nat} {x2 : Int32} (hs6 : s ≤ 6) (hl0 : 0 < l) (hl6 : l ≤ 6) (hsh : sh < 6) (hlf : ∀ t, t < s + l → x_i M (m + 18) (40 * sh + t) = nI (lf t) ∧ lf t < 8) (h25 : x_i M m 25 = nI (s + l)) (h26 : x_i M m 26 = nI b) (hrc : x_i M m 1 = nI rc) (hr10 : rc < 10)
    (hQ : ∀ M' mc, FrM M M' m [1, 22, 29] [1, 2, 3, 4, 20, 21, 22, 23, 24, 25, 26] → mcan b mc (fun u => lf (dl (riD b s l) 0 u)) → m_n mc ≤ 60 → NewR M M' m rc 2 b mc → Q (some (.int (nI rc))) M') :
    LX12_ring_154 G (d + 4) 0 0 m (nI sh) x2 (nI s) (nI l) (nI 0) none none M Q := by
  have fr0 : ∀ {M' : Mem}, FrM M M' m [] [20, 21] → ReS M' m ∧ x_i M' m 0 = nI b ∧ x_i M' m 25 = nI (s + l) ∧ x_i M' m 26 = nI b ∧ x_i M' m 1 = nI rc := fun g => ⟨g.S hs, by rw [g.fm (by decide)]; exact h0, by rw [g.fm (by decide)]; exact h25, by rw [g.fm (by decide)]; exact h26, by rw [g.fm (by decide)]; exact hrc⟩
  have inner : ∀ i, i < s + l → (∀ M' z z1, c1 z = true → c1 z1 = true → FrM M M' m [] [20, 21] → FiI M' m b (riD b s l) lf (i + 1) (i * b + b) → LX12_ring_154 G (d + 4) 0 0 m (nI sh) x2 (nI s) (nI l) (nI (i + 1)) z z1 M' Q) → ∀ r k, k + r = b → ∀ M', FrM M M' m [] [20, 21] → FiI M' m b (riD b s l) lf (i + 1) (i * b + k) → ∀ z, c1 z = true → LX12_ring_185 G (d + 4) 0 0 m (nI sh) x2 (nI s) (nI l) (nI i) (nI k) z M' Q := by
    intro i hi hout r
    induction r with
    | zero =>
      intro k hk M' hfr hfi z hz
      have e : k = b := by omega
      subst e
      obtain ⟨q1, q2, -⟩ := fr0 hfr
      refine vX12_ring_185 _ _ _ _ _ _ _ _ hz ⟨q1.1, fun _ => ?_, fun c => absurd (by rw [q2]; exact nI_le (Nat.le_refl _) (by omega)) c⟩
      rw [nI_1]
      exact hout M' _ _ rfl hz hfr hfi
    | succ r ih =>
      intro k hk M' hfr hfi z hz
      obtain ⟨q1, q2, q3, -⟩ := fr0 hfr
      have hib : i * b ≤ 36 := by
        have : i * b ≤ 12 * 3 := Nat.mul_le_mul (by omega) hb3
        omega
      have ev : nI b * nI i + nI k = nI (i * b + k) := by rw [pk_mul, nI_add, Nat.mul_comm b i]
      have vin : vp_in (nI (27 * i + k)) (x_h M' (m + 20)).2 := by rw [q1.h20]; exact vp_in_nI (show 27 * i + k < 226800 by omega) (by omega)
      have wr : ∀ (v : Int32), v = nI (riD b s l i k) → ∀ M8, M8 = x_si M' (m + 20) (nI (27 * i + k)).toNatClampNeg v → LX12_ring_185 G (d + 4) 0 0 m (nI sh) x2 (nI s) (nI l) (nI i) (nI k + 1) (some (.int (nI (i * b + k)))) M8 Q := by
        rintro v hv M8 rfl
        rw [nI_clamp (by omega), nI_1]
        exact ih (k + 1) (by omega) _ (hfr.si (by decide) (by decide)) (hfi.link hb3 (by omega) hv) _ rfl
      refine vX12_ring_185 _ _ _ _ _ _ _ _ hz ⟨q1.1, fun c => absurd (by rw [q2] at c; exact c) (nI_ge (a := k) (b := b) (by omega) (by omega)), fun _ => ⟨m + 20, q1.r20, ?_⟩⟩
      rw [q2, ev, q3, e27_]
      refine ⟨fun c => ⟨fun e => absurd ((nI_eq (a := l) (b := 0) (by omega) (by omega)).mp e) (by omega), by rw [q1.h20], vin, ?_⟩, fun c => ⟨by rw [q1.h20], vin, wr _ ?_⟩⟩
      · have c' := (nI_leI (a := s + l) (b := i * b + k) (by omega) (by omega)).mp c
        refine wr _ ?_
        rw [pk_sub (show s ≤ i * b + k by omega), pk_rem (by omega) (by omega) (by omega), nI_add]
        unfold riD
        rw [if_neg (by omega)]
      · have c' : ¬ s + l ≤ i * b + k := fun q => c (nI_le q (by omega))
        unfold riD
        rw [if_pos (by omega)]
  have outer : ∀ r i, i + r = s + l → ∀ M', FrM M M' m [] [20, 21] → FiI M' m b (riD b s l) lf i (i * b) → ∀ z z1, c1 z = true → c1 z1 = true → LX12_ring_154 G (d + 4) 0 0 m (nI sh) x2 (nI s) (nI l) (nI i) z z1 M' Q := by
    intro r
    induction r with
    | zero =>
      intro i hi M' hfr hfi z z1 hz hz1
      have e : i = s + l := by omega
      subst e
      obtain ⟨q1, q2, q3, q4, q5⟩ := fr0 hfr
      refine vX12_ring_154 _ _ _ _ _ _ _ _ hz hz1 ⟨q1.1, fun _ => ?_, fun c => absurd (by rw [q3]; exact nI_le (Nat.le_refl _) (by omega)) c⟩
      refine ur_drawRow d q1 (kd := 2) (hfi.raw (by omega) hb3 q3 q4 (by omega) (by omega) (fun a ha k hk => riD_lt hl0) (fun a ha => by have := (hlf a ha).2; omega)) q2 hb3 q5 hr10 (by omega) (β := fun u => lf (dl (riD b s l) 0 u)) (fun u hu => by rw [rn_dl]) (fun M1 mc g1 g2 g3 g4 => ?_)
      exact hQ M1 mc ((hfr.wk (by decide) (by decide)).tr g1 (by decide) (by decide)) g2 g3 ⟨g4.1, g4.2.1, g4.2.2.1, fun r hr => (g4.2.2.2.1 r hr).trans (by rw [hfr.i (by decide) (by decide)]), g4.2.2.2.2.1, fun r mc' h1 h2 h3 => g4.2.2.2.2.2 r mc' h1 h2 (h3.fr hfr (by decide))⟩
    | succ r ih =>
      intro i hi M' hfr hfi z z1 hz hz1
      obtain ⟨q1, q2, q3, q4, q5⟩ := fr0 hfr
      have il : i < s + l := by omega
      refine vX12_ring_154 _ _ _ _ _ _ _ _ hz hz1 ⟨q1.1, fun c => absurd (by rw [q3] at c; exact c) (nI_ge (a := i) (b := s + l) (by omega) (by omega)), fun _ => ⟨m + 21, q1.r21, m + 18, q1.r18, by rw [q1.h18], by rw [e40_, q1.h18]; exact vp_in_nI (show 40 * sh + i < 240 by omega) (by omega), by rw [q1.h21], by rw [q1.h21]; exact vp_in_nI (show i < 8400 by omega) (by omega), ?_⟩⟩
      rintro M3 rfl
      rw [e40_, nI_clamp (n := 40 * sh + i) (by omega), nI_clamp (n := i) (by omega), hfr.i (o := 18) (by decide) (by decide), (hlf i il).1]
      exact inner i il (fun M4 z z1 hz hz1 b1 b2 => ih (i + 1) (by omega) M4 b1 (by rw [Nat.succ_mul]; exact b2) z z1 hz hz1) b 0 (Nat.zero_add b) _ (hfr.si (by decide) (by decide)) (hfi.mark rfl) z1 hz1
  exact outer (s + l) 0 (Nat.zero_add _) M FrM.rf (by rw [Nat.zero_mul]; exact FiI.start) none none rfl rfl
end RRowsC
