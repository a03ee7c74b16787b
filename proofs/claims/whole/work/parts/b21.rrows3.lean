/-! ===== the reference: pairs of rows, rows sought ===== -/
section RRows3C
variable {G : GG} {M : Mem} {m b : Nat} {Q : Option Value → Mem → Prop}
def ppD (sa sb : Nat → Nat → Nat) (x g : Nat) : Nat := sa (x / 60) g * 60 + sb (x % 60) g
theorem pp_tells {nB : Nat} {sa sb : Nat → Nat → Nat} (hn : nB ≤ 60) (hc : ∀ i, i < nB → ∀ g, g < b → sb i g < nB) : ∀ (u : List Nat) (x y : Nat), wd b u → y < nB → dl (ppD sa sb) (x * 60 + y) u = rn sa x u * 60 + rn sb y u
  | [], x, y, _, _ => rfl
  | g :: u, x, y, hu, hy => by
    have ih := pp_tells (sa := sa) hn hc u (sa x g) (sb y g) (wd_tail hu).2 (hc y hy g (wd_tail hu).1)
    have e : ppD sa sb (x * 60 + y) g = sa x g * 60 + sb y g := by
      unfold ppD
      rw [show (x * 60 + y) / 60 = x by omega, show (x * 60 + y) % 60 = y by omega]
    show dl (ppD sa sb) (ppD sa sb (x * 60 + y) g) u = rn sa (sa x g) u * 60 + rn sb (sb y g) u
    rw [e, ih]
theorem jn_way {x y : Nat} : (jn 0 x y = if x = y then 1 else 0) ∧ jn 1 x y = (x + y) % 8 ∧ jn 2 x y = max x y := ⟨rfl, rfl, rfl⟩
theorem ur_bPair (d : Nat) (hs : ReS M m) (hb1 : 1 < b) (hb3 : b ≤ 3) (h0 : x_i M m 0 = nI b) {ra rb way rc : Nat} {ma mb : Mc} (hra : ra < 10) (hrb : rb < 10) (hw : way ≤ 2) (hA : ReR M m ra b ma) (hB : ReR M m rb b mb) (hna : 0 < m_n ma ∧ m_n ma ≤ 60) (hnb : 0 < m_n mb ∧ m_n mb ≤ 60) (hca : ∀ i, i < m_n ma → ∀ g, g < b → m_s ma i g < m_n ma) (hcb : ∀ i, i < m_n mb → ∀ g, g < b → m_s mb i g < m_n mb) (hka : ∀ i, i < m_n ma → m_k ma i < 8) (hkb : ∀ i, i < m_n mb → m_k mb i < 8) (hpr : PrI M m [0]) (h26 : x_i M m 26 = nI b) (hrc : x_i M m 1 = nI rc) (hr10 : rc < 10)
    (hQ1 : ∀ M' mc, FrM M M' m [1, 22, 25, 29] [1, 2, 3, 4, 20, 21, 22, 23, 24, 25, 26, 27, 28, 29] → mcan b mc (fun u => jn way (m_b ma u) (m_b mb u)) → m_n mc ≤ 60 → NewR M M' m rc 3 b mc → Q (some (.int (nI rc))) M')
    (hQ0 : ∀ M', FrM M M' m [25, 29] [20, 21, 22, 23, 24, 25, 26, 27, 28, 29] → (∀ mc, mcan b mc (fun u => jn way (m_b ma u) (m_b mb u)) → 60 < m_n mc) → Q (some (.int (-1))) (x_si M' m 22 3)) :
    LX12_pair_61 G (d + 4) 0 0 m (nI ra) (nI rb) (nI way) (nI 0) none none none M Q := by
  generalize hδ : ppD (m_s ma) (m_s mb) = δ
  generalize hμ : (fun x => jn way (m_k ma (x / 60)) (m_k mb (x % 60))) = μ
  have hδx : ∀ x g, δ x g = m_s ma (x / 60) g * 60 + m_s mb (x % 60) g := fun x g => by rw [← hδ]; rfl
  have hμx : ∀ x, μ x = jn way (m_k ma (x / 60)) (m_k mb (x % 60)) := fun x => by rw [← hμ]
  have hKn : ∀ c, exV δ b 0 c → ∀ x ∈ ex δ b 0 c, x / 60 < m_n ma ∧ x % 60 < m_n mb := fun c hV => ex_all (P := fun x => x / 60 < m_n ma ∧ x % 60 < m_n mb) (by omega) ⟨hna.1, hnb.1⟩ (fun x hx g hg => by
    have h1 := hca _ hx.1 g hg
    have h2 := hcb _ hx.2 g hg
    rw [hδx]
    generalize m_s ma (x / 60) g = X at h1 ⊢
    generalize m_s mb (x % 60) g = Y at h2 ⊢
    constructor <;> omega) c hV
  have hμ8 : ∀ c, exV δ b 0 c → ∀ x ∈ ex δ b 0 c, μ x < 8 := fun c hV x hx => by
    obtain ⟨h1, h2⟩ := hKn c hV x hx
    rw [hμx]
    exact jn_lt (hka _ h1) (hkb _ h2)
  have hbeta : ∀ u, wd b u → μ (dl δ 0 u) = jn way (m_b ma u) (m_b mb u) := fun u hu => by
    have h1 := pp_tells (sa := m_s ma) (sb := m_s mb) hnb.2 hcb u 0 0 hu hnb.1
    rw [Nat.zero_mul, Nat.zero_add, hδ] at h1
    have h2 : rn (m_s mb) 0 u < m_n mb := rn_lt hcb u 0 hu hnb.1
    rw [hμx, h1, show (rn (m_s ma) 0 u * 60 + rn (m_s mb) 0 u) / 60 = rn (m_s ma) 0 u by omega, show (rn (m_s ma) 0 u * 60 + rn (m_s mb) 0 u) % 60 = rn (m_s mb) 0 u by omega]
    rfl
  have fr0 : ∀ {M' : Mem}, FrM M M' m [25] [20, 21, 27, 28, 29] → ReS M' m ∧ x_i M' m 0 = nI b ∧ x_i M' m 26 = nI b ∧ x_i M' m 1 = nI rc ∧ ReR M' m ra b ma ∧ ReR M' m rb b mb := fun g => ⟨g.S hs, by rw [g.fm (by decide)]; exact h0, by rw [g.fm (by decide)]; exact h26, by rw [g.fm (by decide)]; exact hrc, hA.fr g (by decide), hB.fr g (by decide)⟩
  have done : ∀ i M', FrM M M' m [25] [20, 21, 27, 28, 29] → PrI M' m (ex δ b 0 (i * b)) → RxI M' m b δ 0 μ (i * b) i → (ex δ b 0 (i * b)).length = i → Call G (d + 4) 0 0 mX12_least [.ref m] M' (fun r3 M4 => r3 = none ∧ (x_h M4 m).1 = 28 ∧ ((x_i M4 m 29) ≤ 60 → Call G (d + 4) 0 0 mX12_newRow [.ref m, .int 3] M4 (fun r7 M8 => ∃ v9 : Int32, r7 = some (.int v9) ∧ Q (some (.int v9)) M8)) ∧ (¬ (x_i M4 m 29) ≤ 60 → Call G (d + 4) 0 0 mX12_refused [.ref m, .int 3] M4 (fun r10 M11 => ∃ v12 : Int32, r10 = some (.int v12) ∧ Q (some (.int v12)) M11))) := by
    intro i M' hfr hpr hrx el
    have hlen := hpr.len
    obtain ⟨q1, q2, q3, q4, q5, q6⟩ := fr0 hfr
    obtain ⟨w1, w2⟩ := hrx.raw (by omega) (by omega) el (by rw [hpr.1, el]) q3 (by omega) (fun x hx => by have := hμ8 _ hrx.2.2.1 x hx; omega)
    refine ur_least d q1 w1 (fun M1 n st' mr' g1 hl hcan => ⟨rfl, (g1.S q1).1, ?_⟩)
    have hnN := hl.2.1
    have hcan' : mcan b (n, st', mr') (fun u => jn way (m_b ma u) (m_b mb u)) := Can.congr hcan (fun u hu => (w2 u hu).trans (hbeta u hu))
    rw [hl.1, show (60 : Int32) = nI 60 from rfl, nI_leI (by omega) (by omega)]
    refine ⟨fun hn => ?_, fun hn => ?_⟩
    · refine ur_newRow (d + 1) (kd := 3) (g1.S q1) (w1.fr g1 (by decide) (by decide)) hl (by rw [g1.fm (by decide)]; exact q2) hb3 (by rw [g1.fm (by decide)]; exact q4) hr10 hn (fun M2 g2 n1 n2 n3 n4 n5 n6 => ⟨_, rfl, ?_⟩)
      exact hQ1 M2 (n, st', mr') (((hfr.wk (by decide) (by decide)).tr g1 (by decide) (by decide)).tr g2 (by decide) (by decide)) hcan' hn ⟨n1, n2, n3, fun r hr => (n4 r hr).trans (by rw [g1.i (by decide) (by decide), hfr.i (by decide) (by decide)]), n5, fun r mc' hr hm hR => n6 r mc' hr hm ((hR.fr hfr (by decide)).fr g1 (by decide))⟩
    · refine u_refused (d + 3) (g1.S q1) ⟨_, rfl, ?_⟩
      exact hQ0 M1 ((hfr.wk (by decide) (by decide)).tr g1 (by decide) (by decide)) (fun mc hm => by
        have h1 : n = m_n mc := (mcan_one (by omega) hcan' hm).1
        omega)
  have inner : ∀ i, (∀ M' z z1 z2, FrM M M' m [25] [20, 21, 27, 28, 29] → PrI M' m (ex δ b 0 (i * b + b)) → RxI M' m b δ 0 μ (i * b + b) (i + 1) → c1 z = true → c1 z1 = true → c1 z2 = true → LX12_pair_61 G (d + 4) 0 0 m (nI ra) (nI rb) (nI way) (nI (i + 1)) z z1 z2 M' Q) →
      ∀ k j, j + k = b → ∀ M', FrM M M' m [25] [20, 21, 27, 28, 29] → PrI M' m (ex δ b 0 (i * b + j)) → RxI M' m b δ 0 μ (i * b + j) (i + 1) → ∀ x5 x6, LX12_pair_167 G (d + 4) 0 0 m (nI ra) (nI rb) (nI way) (nI i) x5 x6 (nI j) M' Q := by
    intro i hout k
    induction k with
    | zero =>
      intro j hj M' hfr hpr hrx x5 x6
      have e : j = b := by omega
      rw [e] at hpr hrx ⊢
      obtain ⟨q1, q2, -⟩ := fr0 hfr
      refine vX12_pair_167 _ _ _ _ _ _ _ _ ⟨q1.1, fun _ => ?_, fun c => absurd (by rw [q2]; exact nI_le (Nat.le_refl b) (by omega)) c⟩
      rw [nI_1]
      exact hout M' _ _ _ hfr hpr hrx rfl rfl rfl
    | succ k ih =>
      intro j hj M' hfr hpr hrx x5 x6
      have hjf : j < b := by omega
      have hil : i < (ex δ b 0 (i * b + j)).length := hrx.2.2.2
      have hlen := hpr.len
      obtain ⟨q1, q2, q3, q4, q5, q6⟩ := fr0 hfr
      obtain ⟨t1, t2⟩ := hpr.2.2.1 i hil
      obtain ⟨kn1, kn2⟩ := hKn _ hrx.2.2.1 _ (getD_mem hil)
      generalize hxe : (ex δ b 0 (i * b + j)).getD i 0 = x at t1 t2 kn1 kn2
      have e1 : (i * b + j) / b = i := by rw [Nat.mul_comm, Nat.mul_add_div (by omega), Nat.div_eq_of_lt hjf]; rfl
      have e2 : (i * b + j) % b = j := by rw [Nat.mul_comm, Nat.mul_add_mod]; exact Nat.mod_eq_of_lt hjf
      have hkey : δ ((ex δ b 0 (i * b + j)).getD ((i * b + j) / b) 0) ((i * b + j) % b) = m_s ma (x / 60) j * 60 + m_s mb (x % 60) j := by rw [e1, e2, hxe, hδx]
      have hex : ex δ b 0 (i * b + j + 1) = ins (ex δ b 0 (i * b + j)) (m_s ma (x / 60) j * 60 + m_s mb (x % 60) j) := by rw [← hkey]; rfl
      have hexl : exl δ b 0 (i * b + j) = (ins (ex δ b 0 (i * b + j)) (m_s ma (x / 60) j * 60 + m_s mb (x % 60) j)).idxOf (m_s ma (x / 60) j * 60 + m_s mb (x % 60) j) := by rw [← hex, ← hkey]; rfl
      have hsa := hca _ kn1 j hjf
      have hsb := hcb _ kn2 j hjf
      have vin : vp_in (nI i) 8400 := vp_in_nI (show i < 8400 by omega) (by omega)
      have hcli : (nI i).toNatClampNeg = i := nI_clamp (by omega)
      refine vX12_pair_167 _ _ _ _ _ _ _ _ ⟨q1.1, fun c => absurd (by rw [q2] at c; exact c) (nI_ge (a := j) (b := b) (by omega) (by omega)), fun _ => ⟨m + 20, q1.r20, m + 28, q1.r28, by rw [q1.h28], by rw [q1.h28]; exact vin, ?_⟩⟩
      rw [hcli, t1]
      refine ur_rowTo (d + 3) q1 q5 hra hna.2 hb3 kn1 hjf ⟨_, rfl, q1.1, m + 29, q1.r29, by rw [q1.h29], by rw [q1.h29]; exact vin, ?_⟩
      rw [t2]
      refine ur_rowTo (d + 3) q1 q6 hrb hnb.2 hb3 kn2 hjf ⟨_, rfl, q1.1, ?_⟩
      refine ur_paired (d + 3) q1 hpr (by omega) (by omega) (fun M1 g1 g2 => ?_)
      rw [← hex] at g2
      rw [← hexl, e27_]
      have q1' := g1.S q1
      refine ⟨_, rfl, by rw [q1'.h20], by rw [q1'.h20]; exact vp_in_nI (show 27 * i + j < 226800 by omega) (by omega), ?_⟩
      rintro M2 rfl
      rw [nI_clamp (by omega), nI_1]
      have g3 : FrM M1 (x_si M1 (m + 20) (27 * i + j) (nI (exl δ b 0 (i * b + j)))) m [] [20] := FrM.rf.si (by decide) (by decide)
      exact ih (j + 1) (by omega) _ ((hfr.tr g1 (by decide) (by decide)).tr g3 (by decide) (by decide)) (g2.fr g3 (by decide) (by decide)) ((hrx.fr g1 (by decide)).link (by omega) (by omega) rfl hjf hil rfl) x5 x6
  have outer : ∀ k i, i + k = 3600 → ∀ M', FrM M M' m [25] [20, 21, 27, 28, 29] → PrI M' m (ex δ b 0 (i * b)) → RxI M' m b δ 0 μ (i * b) i → ∀ z z1 z2, c1 z = true → c1 z1 = true → c1 z2 = true → LX12_pair_61 G (d + 4) 0 0 m (nI ra) (nI rb) (nI way) (nI i) z z1 z2 M' Q := by
    intro k
    induction k with
    | zero =>
      intro i hi M' hfr hpr hrx z z1 z2 hz hz1 hz2
      have hlen := hpr.len
      have hle := hrx.2.2.2
      have el : (ex δ b 0 (i * b)).length = i := by omega
      exact vX12_pair_61 _ _ _ _ _ _ _ _ hz hz1 hz2 ⟨(fr0 hfr).1.1, fun _ => done i M' hfr hpr hrx el, fun c => absurd (by rw [hpr.1, el]; exact nI_le (Nat.le_refl i) (by omega)) c⟩
    | succ k ih =>
      intro i hi M' hfr hpr hrx z z1 z2 hz hz1 hz2
      have hlen := hpr.len
      have hle := hrx.2.2.2
      obtain ⟨q1, q2, q3, q4, q5, q6⟩ := fr0 hfr
      refine vX12_pair_61 _ _ _ _ _ _ _ _ hz hz1 hz2 ⟨q1.1, fun c => ?_, fun c => ?_⟩
      · rw [hpr.1] at c
        have := (nI_leI (a := (ex δ b 0 (i * b)).length) (b := i) (by omega) (by omega)).mp c
        exact done i M' hfr hpr hrx (by omega)
      · rw [hpr.1] at c
        have hil : i < (ex δ b 0 (i * b)).length := by
          rcases Nat.lt_or_ge i (ex δ b 0 (i * b)).length with q | q
          · exact q
          · exact absurd (nI_le q (by omega)) c
        obtain ⟨t1, t2⟩ := hpr.2.2.1 i hil
        obtain ⟨kn1, kn2⟩ := hKn _ hrx.2.2.1 _ (getD_mem hil)
        have hmx := hμx ((ex δ b 0 (i * b)).getD i 0)
        generalize hxe : (ex δ b 0 (i * b)).getD i 0 = x at t1 t2 kn1 kn2 hmx
        have vin : vp_in (nI i) 8400 := vp_in_nI (show i < 8400 by omega) (by omega)
        have ha := hka _ kn1
        have hb' := hkb _ kn2
        have hcli : (nI i).toNatClampNeg = i := nI_clamp (by omega)
        have hA' := q5.2.1 _ kn1
        have hB' := q6.2.1 _ kn2
        have go : ∀ (w : Int32), w = nI (μ x) → ∀ x5 x6, (x_h M' (m + 21)).1 = 1 ∧ vp_in (nI i) (x_h M' (m + 21)).2 ∧ ∀ M26, M26 = x_si M' (m + 21) i w → LX12_pair_167 G (d + 4) 0 0 m (nI ra) (nI rb) (nI way) (nI i) x5 x6 0 M26 Q := by
          rintro w hw x5 x6
          refine ⟨by rw [q1.h21], by rw [q1.h21]; exact vin, ?_⟩
          rintro M2 rfl
          have g3 : FrM M' (x_si M' (m + 21) i w) m [] [21] := FrM.rf.si (by decide) (by decide)
          exact inner i (fun M3 z z1 z2 b1 b2 b3 hz hz1 hz2 => ih (i + 1) (by omega) M3 b1 (by rw [Nat.succ_mul]; exact b2) (by rw [Nat.succ_mul]; exact b3) z z1 z2 hz hz1 hz2) b 0 (by omega) _ (hfr.tr g3 (by decide) (by decide)) (hpr.fr g3 (by decide) (by decide)) (hrx.mark hil (by rw [hw, hxe])) x5 x6
        have ew0 : nI way = 0 ↔ way = 0 := nI_eq (b := 0) (by omega) (by omega)
        have ew1 : nI way = 1 ↔ way = 1 := nI_eq (b := 1) (by omega) (by omega)
        have eAB : nI (m_k ma (x / 60)) = nI (m_k mb (x % 60)) ↔ m_k ma (x / 60) = m_k mb (x % 60) := nI_eq (by omega) (by omega)
        have lAB : nI (m_k ma (x / 60)) ≤ nI (m_k mb (x % 60)) ↔ m_k ma (x / 60) ≤ m_k mb (x % 60) := nI_leI (by omega) (by omega)
        refine ⟨m + 4, q1.r4, m + 28, q1.r28, by rw [q1.h28], by rw [q1.h28]; exact vin, by rw [q1.h4], ?_⟩
        rw [hcli, t1, e60_, nI_clamp (n := 60 * ra + x / 60) (by omega), hA']
        refine ⟨by rw [q1.h4]; exact vp_in_nI (show 60 * ra + x / 60 < 600 by omega) (by omega), m + 29, q1.r29, by rw [q1.h29], by rw [q1.h29]; exact vin, ?_⟩
        rw [t2, e60_, nI_clamp (n := 60 * rb + x % 60) (by omega), hB', ew0, ew1, eAB, lAB]
        refine ⟨by rw [q1.h4]; exact vp_in_nI (show 60 * rb + x % 60 < 600 by omega) (by omega), m + 21, q1.r21, fun c0 => ⟨fun c1 => ⟨fun c2 => go _ ?_ _ _, fun c2 => go _ ?_ _ _⟩, fun c1 => go _ ?_ _ _⟩, fun c0 => ⟨fun c2 => go 0 ?_ _ _, fun c2 => go 1 ?_ _ _⟩⟩
        · have e : way = 2 := by omega
          rw [hmx, e, jn_way.2.2, Nat.max_eq_right c2]
        · have e : way = 2 := by omega
          rw [hmx, e, jn_way.2.2, Nat.max_eq_left (by omega)]
        · rw [hmx, c1, jn_way.2.1, nI_add, show (8 : Int32) = nI 8 from rfl, pk_rem (by omega) (by omega) (by omega)]
        · rw [hmx, c0, jn_way.1, if_neg c2]; rfl
        · rw [hmx, c0, jn_way.1, if_pos c2]; rfl
  exact outer 3600 0 (by omega) M FrM.rf (by rw [Nat.zero_mul]; exact hpr) (by rw [Nat.zero_mul]; exact RxI.start) none none none rfl rfl rfl
end RRows3C
