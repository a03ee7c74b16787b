/-! ===== the reference: rows of a machine, pairs ===== -/
section RRows2C
variable {G : GG} {M : Mem} {m b : Nat} {Q : Option Value → Mem → Prop}
def mrS (b : Nat) (sf : Nat → Nat) (a d : Nat) : Nat := if a = 0 ∧ d = 0 then 0 else sf ((a - 1) * b + d) + 1
theorem mr_sim {n : Nat} {sf lf : Nat → Nat} (hsf : ∀ t, t < n * b → sf t < n) (hn : 0 < n) : ∀ (u : List Nat) (a x : Nat), wd b u → a ≤ n → ((a = 0 ∧ x = n) ∨ (a = x + 1 ∧ x < n)) → lf (rn (mrS b sf) a u - 1) = mcM n lf (dl (mcD n b sf) x u)
  | [], a, x, _, ha, h => by
    show lf (a - 1) = lf (if x = n then 0 else x)
    rcases h with ⟨h1, h2⟩ | ⟨h1, h2⟩
    · rw [if_pos h2, h1]
    · rw [if_neg (by omega), h1]; rfl
  | g :: u, a, x, hu, ha, h => by
    have hg := (wd_tail hu).1
    show lf (rn (mrS b sf) (mrS b sf a g) u - 1) = mcM n lf (dl (mcD n b sf) (mcD n b sf x g) u)
    have hx : (if x = n then 0 else x) = a - 1 := by
      rcases h with ⟨h1, h2⟩ | ⟨h1, h2⟩
      · rw [if_pos h2, h1]
      · rw [if_neg (by omega), h1]; rfl
    have hlt : (a - 1) * b + g < n * b := by
      have : (a - 1 + 1) * b ≤ n * b := Nat.mul_le_mul_right b (by omega)
      rw [Nat.succ_mul] at this
      omega
    by_cases c : a = 0 ∧ g = 0
    · have hxn : x = n := by omega
      have e1 : mrS b sf a g = 0 := if_pos c
      have e2 : mcD n b sf x g = n := if_pos ⟨hxn, c.2⟩
      rw [e1, e2]
      exact mr_sim hsf hn u 0 n (wd_tail hu).2 (Nat.zero_le n) (Or.inl ⟨rfl, rfl⟩)
    · have e1 : mrS b sf a g = sf ((a - 1) * b + g) + 1 := if_neg c
      have e2 : mcD n b sf x g = sf ((a - 1) * b + g) := by
        show (if x = n ∧ g = 0 then n else sf ((if x = n then 0 else x) * b + g)) = _
        rw [if_neg (by omega), hx]
      have := hsf _ hlt
      rw [e1, e2]
      exact mr_sim hsf hn u _ _ (wd_tail hu).2 (by omega) (Or.inr ⟨rfl, this⟩)
theorem ur_bMachine (d : Nat) (hs : ReS M m) (hb1 : 1 < b) (hb3 : b ≤ 3) (h0 : x_i M m 0 = nI b) {n s l rc : Nat} {sf lf : Nat → Nat} {x3 x5 x6 : Int32} (hn : 0 < n) (hn8 : n ≤ 8) (hs6 : s < 6) (hl6 : l < 6) (hS : (x5 = 0 ∧ ∀ t, sf t = 0) ∨ (x5 ≠ 0 ∧ ∀ t, t < n * b → x_i M (m + 18) (40 * s + t) = nI (sf t))) (hsf : ∀ t, t < n * b → sf t < n) (hL : (x6 = 0 ∧ ∀ t, lf t = 0) ∨ (x6 ≠ 0 ∧ ∀ t, t < n → x_i M (m + 18) (40 * l + t) = nI (lf t))) (hlf : ∀ t, t < n → lf t < 8) (h25 : x_i M m 25 = nI (n + 1)) (h26 : x_i M m 26 = nI b) (hrc : x_i M m 1 = nI rc) (hr10 : rc < 10)
    (hQ : ∀ M' mc, FrM M M' m [1, 22, 29] [1, 2, 3, 4, 20, 21, 22, 23, 24, 25, 26] → mcan b mc (fun u => mcM n lf (dl (mcD n b sf) n u)) → m_n mc ≤ 60 → NewR M M' m rc 0 b mc → Q (some (.int (nI rc))) M') :
    LX12_machine_230 G (d + 4) 0 0 m (nI s) (nI l) x3 (nI n) x5 x6 (nI 0) none none none M Q := by
  have hnb : n * b ≤ 24 := by
    have : n * b ≤ 8 * 3 := Nat.mul_le_mul hn8 hb3
    omega
  have hlt : ∀ i, i ≤ n → ∀ k, k < b → (i - 1) * b + k < n * b := fun i hi k hk => by
    have : (i - 1 + 1) * b ≤ n * b := Nat.mul_le_mul_right b (by omega)
    rw [Nat.succ_mul] at this
    omega
  have fr0 : ∀ {M' : Mem}, FrM M M' m [] [20, 21] → ReS M' m ∧ x_i M' m 0 = nI b ∧ x_i M' m 25 = nI (n + 1) ∧ x_i M' m 26 = nI b ∧ x_i M' m 1 = nI rc := fun g => ⟨g.S hs, by rw [g.fm (by decide)]; exact h0, by rw [g.fm (by decide)]; exact h25, by rw [g.fm (by decide)]; exact h26, by rw [g.fm (by decide)]; exact hrc⟩
  have inner : ∀ i, i ≤ n → (∀ M' z z1 z2, c1 z = true → c1 z1 = true → c1 z2 = true → FrM M M' m [] [20, 21] → FiI M' m b (mrS b sf) (fun a => lf (a - 1)) (i + 1) (i * b + b) → LX12_machine_230 G (d + 4) 0 0 m (nI s) (nI l) x3 (nI n) x5 x6 (nI (i + 1)) z z1 z2 M' Q) → ∀ r k, k + r = b → ∀ M', FrM M M' m [] [20, 21] → FiI M' m b (mrS b sf) (fun a => lf (a - 1)) (i + 1) (i * b + k) → ∀ z, c1 z = true → LX12_machine_283 G (d + 4) 0 0 m (nI s) (nI l) x3 (nI n) x5 x6 (nI i) (nI (i - 1)) (nI k) z M' Q := by
    intro i hi hout r
    induction r with
    | zero =>
      intro k hk M' hfr hfi z hz
      have e : k = b := by omega
      subst e
      obtain ⟨q1, q2, -⟩ := fr0 hfr
      refine vX12_machine_283 _ _ _ _ _ _ _ _ _ _ _ hz ⟨q1.1, fun _ => ?_, fun c => absurd (by rw [q2]; exact nI_le (Nat.le_refl _) (by omega)) c⟩
      rw [nI_1]
      exact hout M' _ _ _ rfl rfl hz hfr hfi
    | succ r ih =>
      intro k hk M' hfr hfi z hz
      obtain ⟨q1, q2, -⟩ := fr0 hfr
      have hl := hlt i hi k (by omega)
      have hsl := hsf _ hl
      have ei0 : nI i = 0 ↔ i = 0 := nI_eq (b := 0) (by omega) (by omega)
      have ek0 : nI k = 0 ↔ k = 0 := nI_eq (b := 0) (by omega) (by omega)
      have vin : vp_in (nI (27 * i + k)) (x_h M' (m + 20)).2 := by rw [q1.h20]; exact vp_in_nI (show 27 * i + k < 226800 by omega) (by omega)
      have wr : ∀ (u0 v : Int32), v = nI (mrS b sf i k) → ∀ M8, M8 = x_si M' (m + 20) (nI (27 * i + k)).toNatClampNeg v → LX12_machine_283 G (d + 4) 0 0 m (nI s) (nI l) x3 (nI n) x5 x6 (nI i) (nI (i - 1)) (nI k + 1) (some (.int u0)) M8 Q := by
        rintro u0 v hv M8 rfl
        rw [nI_clamp (by omega), nI_1]
        exact ih (k + 1) (by omega) _ (hfr.si (by decide) (by decide)) (hfi.link hb3 (by omega) hv) _ rfl
      have go : ∀ (u0 : Int32), u0 = nI (sf ((i - 1) * b + k)) → LX12_machine_321 G (d + 4) 0 0 m (nI s) (nI l) x3 (nI n) x5 x6 (nI i) (nI (i - 1)) (nI k) z u0 M' Q := by
        rintro u0 hu0
        refine vX12_machine_321 _ _ _ _ _ _ _ _ _ _ _ _ hz ⟨q1.1, m + 20, q1.r20, ?_⟩
        rw [e27_, ei0, ek0]
        refine ⟨fun c => ⟨by rw [q1.h20], vin, wr _ _ ?_⟩, fun c => ⟨fun c2 => ⟨by rw [q1.h20], vin, wr _ _ ?_⟩, fun c2 => ⟨by rw [q1.h20], vin, wr _ _ ?_⟩⟩⟩
        · unfold mrS; rw [if_neg (by omega), hu0, nI_1]
        · unfold mrS; rw [if_neg (by omega), hu0, nI_1]
        · unfold mrS; rw [if_pos ⟨c, c2⟩]; rfl
      refine vX12_machine_283 _ _ _ _ _ _ _ _ _ _ _ hz ⟨q1.1, fun c => absurd (by rw [q2] at c; exact c) (nI_ge (a := k) (b := b) (by omega) (by omega)), fun _ => ?_⟩
      rcases hS with ⟨h1, h2⟩ | ⟨h1, h2⟩
      · exact ⟨fun _ => go 0 (by rw [h2]; rfl), fun c => absurd h1 c⟩
      · refine ⟨fun c => absurd c h1, fun _ => ⟨m + 18, q1.r18, by rw [q1.h18], ?_⟩⟩
        have ec : (40 : Int32) * nI s + nI b * nI (i - 1) + nI k = nI (40 * s + ((i - 1) * b + k)) := by rw [pk_mul, e40_, nI_add, Nat.mul_comm b (i - 1), Nat.add_assoc]
        rw [q2, ec]
        refine ⟨by rw [q1.h18]; exact vp_in_nI (show 40 * s + ((i - 1) * b + k) < 240 by omega) (by omega), go _ ?_⟩
        rw [nI_clamp (by omega), hfr.i (o := 18) (by decide) (by decide), h2 _ hl]
  have outer : ∀ r i, i + r = n + 1 → ∀ M', FrM M M' m [] [20, 21] → FiI M' m b (mrS b sf) (fun a => lf (a - 1)) i (i * b) → ∀ z z1 z2, c1 z = true → c1 z1 = true → c1 z2 = true → LX12_machine_230 G (d + 4) 0 0 m (nI s) (nI l) x3 (nI n) x5 x6 (nI i) z z1 z2 M' Q := by
    intro r
    induction r with
    | zero =>
      intro i hi M' hfr hfi z z1 z2 hz hz1 hz2
      have e : i = n + 1 := by omega
      subst e
      obtain ⟨q1, q2, q3, q4, q5⟩ := fr0 hfr
      refine vX12_machine_230 _ _ _ _ _ _ _ _ _ _ _ hz hz1 hz2 ⟨fun _ => ⟨q1.1, ?_⟩, fun c => absurd (nI_lt (by omega) (by omega)) c⟩
      refine ur_drawRow d q1 (kd := 0) (hfi.raw (by omega) hb3 q3 q4 (by omega) (by omega) (fun a ha k hk => ?_) (fun a ha => by have := hlf (a - 1) (by omega); show lf (a - 1) < 2 ^ 20; omega)) q2 hb3 q5 hr10 (by omega) (β := fun u => mcM n lf (dl (mcD n b sf) n u)) (fun u hu => mr_sim hsf hn u 0 n hu (Nat.zero_le n) (Or.inl ⟨rfl, rfl⟩)) (fun M1 mc g1 g2 g3 g4 => ?_)
      · have := hsf _ (hlt a (by omega) k hk)
        unfold mrS
        split <;> omega
      · exact hQ M1 mc ((hfr.wk (by decide) (by decide)).tr g1 (by decide) (by decide)) g2 g3 ⟨g4.1, g4.2.1, g4.2.2.1, fun r hr => (g4.2.2.2.1 r hr).trans (by rw [hfr.i (by decide) (by decide)]), g4.2.2.2.2.1, fun r mc' h1 h2 h3 => g4.2.2.2.2.2 r mc' h1 h2 (h3.fr hfr (by decide))⟩
    | succ r ih =>
      intro i hi M' hfr hfi z z1 z2 hz hz1 hz2
      obtain ⟨q1, q2, q3, q4, q5⟩ := fr0 hfr
      have il : i ≤ n := by omega
      have ei0 : nI i = 0 ↔ i = 0 := nI_eq (b := 0) (by omega) (by omega)
      have hlf1 := hlf (i - 1) (by omega)
      have vin : vp_in (nI i) (x_h M' (m + 21)).2 := by rw [q1.h21]; exact vp_in_nI (show i < 8400 by omega) (by omega)
      have wr : ∀ (v : Int32), v = nI (lf (i - 1)) → ∀ M8, M8 = x_si M' (m + 21) (nI i).toNatClampNeg v → LX12_machine_283 G (d + 4) 0 0 m (nI s) (nI l) x3 (nI n) x5 x6 (nI i) (nI (i - 1)) 0 z2 M8 Q := by
        rintro v hv M8 rfl
        rw [nI_clamp (by omega)]
        exact inner i il (fun M4 z z1 z2 hz hz1 hz2 b1 b2 => ih (i + 1) (by omega) M4 b1 (by rw [Nat.succ_mul]; exact b2) z z1 z2 hz hz1 hz2) b 0 (Nat.zero_add b) _ (hfr.si (by decide) (by decide)) (hfi.mark hv) z2 hz2
      refine vX12_machine_230 _ _ _ _ _ _ _ _ _ _ _ hz hz1 hz2 ⟨fun c => absurd ((nI_ltI (by omega) (by omega)).mp c) (by omega), fun _ => ?_⟩
      rw [ei0]
      refine ⟨fun c => ⟨q1.1, m + 21, q1.r21, ?_⟩, fun c => ⟨q1.1, m + 21, q1.r21, ?_⟩⟩
      · have e1 : nI i - 1 = nI (i - 1) := pk_sub (b := 1) (by omega)
        rw [e1]
        rcases hL with ⟨h1, h2⟩ | ⟨h1, h2⟩
        · exact ⟨fun _ => ⟨by rw [q1.h21], vin, wr 0 (by rw [h2]; rfl)⟩, fun c => absurd h1 c⟩
        · refine ⟨fun c => absurd c h1, fun _ => ⟨m + 18, q1.r18, by rw [q1.h18], by rw [e40_, q1.h18]; exact vp_in_nI (show 40 * l + (i - 1) < 240 by omega) (by omega), by rw [q1.h21], vin, wr _ ?_⟩⟩
          rw [e40_, nI_clamp (by omega), hfr.i (o := 18) (by decide) (by decide), h2 _ (by omega)]
      · subst c
        rcases hL with ⟨h1, h2⟩ | ⟨h1, h2⟩
        · exact ⟨fun _ => ⟨by rw [q1.h21], vin, wr 0 (by rw [h2]; rfl)⟩, fun c => absurd h1 c⟩
        · refine ⟨fun c => absurd c h1, fun _ => ⟨m + 18, q1.r18, by rw [q1.h18], by rw [show (0 : Int32) = nI 0 from rfl, e40_, q1.h18]; exact vp_in_nI (show 40 * l + 0 < 240 by omega) (by omega), by rw [q1.h21], vin, wr _ ?_⟩⟩
          rw [show (0 : Int32) = nI 0 from rfl, e40_, nI_clamp (by omega), hfr.i (o := 18) (by decide) (by decide), h2 0 (by omega)]
  exact outer (n + 1) 0 (Nat.zero_add _) M FrM.rf (by rw [Nat.zero_mul]; exact FiI.start) none none none rfl rfl rfl
end RRows2C
