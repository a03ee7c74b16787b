/-! ===== the reference: sumsMachine ===== -/
section RSums2C
variable {G : GG} {M : Mem} {m b : Nat} {Q : Option Value → Mem → Prop}
/-- what stands of an atom of sums -/
def SuI (M : Mem) (m b p al sg far : Nat) (wt : Nat → Int) (less : Int) : Prop := x_i M m 0 = nI b ∧ (∀ n, n < 8 → x_i M (m + 36) (8 * p + n) = iI (wt n)) ∧ x_i M (m + 37) p = iI less ∧ x_i M (m + 38) p = nI (sg - 16) ∧ x_i M (m + 35) p = nI al
theorem SuI.fr {M' : Mem} {p al sg far : Nat} {wt : Nat → Int} {less : Int} {F A : List Nat} (h : SuI M m b p al sg far wt less) (g : FrM M M' m F A) (h0 : 0 ∉ F) (h1 : 36 ∉ A ∧ 37 ∉ A ∧ 38 ∉ A ∧ 35 ∉ A) : SuI M' m b p al sg far wt less := by
  unfold SuI
  rw [g.fm h0, g.i (by decide) h1.1, g.i (by decide) h1.2.1, g.i (by decide) h1.2.2.1, g.i (by decide) h1.2.2.2]
  exact h
theorem e27_ (i k : Nat) : (27 : Int32) * nI i + nI k = nI (27 * i + k) := by rw [show (27 : Int32) = nI 27 from rfl, pk_mul, nI_add]
theorem e8_ (i k : Nat) : (8 : Int32) * nI i + nI k = nI (8 * i + k) := by rw [show (8 : Int32) = nI 8 from rfl, pk_mul, nI_add]
/-- the load of a row of digits -/
theorem ur_sload (d : Nat) (hs : ReS M m) (hb1 : 1 < b) (hb3 : b ≤ 3) {p al sg far j : Nat} {wt : Nat → Int} {less : Int} (hp : p < 130) (hal : al < 256) (hj : j < 2 ^ 30) (hI : SuI M m b p al sg far wt less) {x2 x3 x4 x5 x6 : Int32} (hQ : LX12_sumsMachine_297 G (d + 3) 0 0 m (nI p) x2 x3 x4 x5 x6 (nI j) (iI (ld b al wt j)) (nI 8) M Q) : LX12_sumsMachine_297 G (d + 3) 0 0 m (nI p) x2 x3 x4 x5 x6 (nI j) 0 0 M Q := by
  obtain ⟨i1, i2, i3, i4, i5⟩ := hI
  have key : ∀ r n, n + r = 8 → LX12_sumsMachine_297 G (d + 3) 0 0 m (nI p) x2 x3 x4 x5 x6 (nI j) (iI (lr b al wt j n)) (nI n) M Q := by
    intro r
    induction r with
    | zero =>
      intro n hn
      have e : n = 8 := by omega
      rw [e, lr_ld]
      exact hQ
    | succ r ih =>
      intro n hn
      have l1 : lr b al wt j (n + 1) = lr b al wt j n + (if bt al n = 1 then wt n * ((j / b ^ ab al (7 - n) % b : Nat) : Int) else 0) := rfl
      have ih2 := ih (n + 1) (by omega)
      rw [l1] at ih2
      refine vX12_sumsMachine_297 _ _ _ _ _ _ _ _ _ _ ⟨fun c => absurd c (nI_ge (a := n) (b := 8) (by omega) (by omega)), fun _ => ⟨hs.1, m + 35, hs.r35, by rw [hs.h35], by rw [hs.h35]; exact vp_in_nI hp (by omega), ?_⟩⟩
      rw [nI_clamp (by omega), i5, sb (by omega) (by omega), sb1, nI_1]
      refine ⟨fun c => ?_, fun c => ⟨m + 36, hs.r36, by rw [hs.h36], by rw [e8_, hs.h36]; exact vp_in_nI (show 8 * p + n < 1040 by omega) (by omega), ?_⟩⟩
      · rw [if_neg c] at ih2
        rw [show (0 : Int32) = iI 0 from by decide, iI_add]
        exact ih2
      · rw [if_pos c] at ih2
        refine ur_digitOf d hs i1 hb1 hb3 hj hal (by omega) ⟨_, rfl, ?_⟩
        rw [e8_, nI_clamp (by omega), i2 n (by omega), iI_n (j / b ^ ab al (7 - n) % b), iI_mul, iI_add]
        exact ih2
  exact key 8 0 rfl
theorem ur_sumsMachine (d : Nat) (hs : ReS M m) (hb : b = 2 ∨ b = 3) {p al sg : Nat} {wt : Nat → Int} {less : Int} (hp : p < 130) (hal : al < 256) (h27 : fn b al ≤ 27) (hsg : sg = 16 ∨ sg = 17 ∨ sg = 18) (hI : SuI M m b p al sg 0 wt less) (hlo : -500 ≤ lowS wt 8) (hhi : higS wt 8 ≤ 500) (hle : -200 ≤ less ∧ less ≤ 200)
    (hQ : ∀ M' res, FrM M M' m [25, 26, 29, 78] [20, 21, 22, 23, 24, 25, 26, 28, 48, 49, 50, 52] → RePk M M' m p → LRes (fn b al) 40 (fun u => cmpI sg (dz (smZ b al wt) 0 u + less)) res → (∀ mc, res = some mc → ReP M' m p (fn b al) mc) → Q (some (.int (nI (if res.isSome = true then 1 else 0)))) M') :
    Call G (d + 6) 0 0 mX12_sumsMachine [.ref m, .int (nI p)] M Q := by
  have hb1 : 1 < b := by omega
  have hb3 : b ≤ 3 := by omega
  have hf0 : 0 < fn b al := fn_pos (by omega)
  have hlow0 : lowS wt 8 ≤ 0 := by have := up_nn (wt := wt) 8; rw [upS_low] at this; omega
  have hhig0 : 0 ≤ higS wt 8 := by have := dn_nn (wt := wt) 8; rw [dnS_hig] at this; exact this
  have ldb : ∀ g, -3000 ≤ ld b al wt g ∧ ld b al wt g ≤ 3000 := fun g => by
    have hl := ld_bd (al := al) (wt := wt) (k := g) hb
    generalize ld b al wt g = L at hl ⊢
    rcases hb with e | e <;> subst e <;> omega
  obtain ⟨far, hfar⟩ : ∃ far : Nat, (far : Int) = max (higS wt 8 - lowS wt 8) (if 0 ≤ less then less else -less) := ⟨(max (higS wt 8 - lowS wt 8) (if 0 ≤ less then less else -less)).toNat, by split <;> omega⟩
  have hfar2 : far ≤ 1000 ∧ -(far : Int) ≤ lowS wt 8 ∧ higS wt 8 ≤ far ∧ -(far : Int) ≤ less ∧ less ≤ far := by
    split at hfar <;> omega
  generalize hfg : fn b al = f at *
  have hbeta : ∀ u, dfM sg far less (dl (dfD b al wt far) (far + 1) u) = cmpI sg (dz (smZ b al wt) 0 u + less) := fun u => df_tells hb hsg hfar2.2.1 hfar2.2.2.1 hfar2.2.2.2.1 hfar2.2.2.2.2 u _ _ (by unfold dfv cutD; rw [if_neg (by omega), if_neg (by omega)]; omega)
  generalize hδ : dfD b al wt far = δ at hbeta
  generalize hμ : dfM sg far less = μ at hbeta
  have hμ1 : ∀ x, μ x ≤ 1 := fun x => by rw [← hμ]; exact dfM_le
  have fr0 : ∀ {M' : Mem}, FrM M M' m [25, 26, 78] [20, 21, 28, 52] → ReS M' m ∧ SuI M' m b p al sg 0 wt less := fun q => ⟨q.S hs, hI.fr q (by decide) (by decide)⟩
  have done : ∀ i M', FrM M M' m [25, 26, 78] [20, 21, 28, 52] → x_i M' m 26 = nI f → DiI M' m far (ex δ f (far + 1) (i * f)) → RxI M' m f δ (far + 1) μ (i * f) i → (ex δ f (far + 1) (i * f)).length = i → Call G (d + 5) 0 0 mX12_becomes [.ref m, .int (nI p)] M' (fun r3 M4 => ∃ v5 : Int32, r3 = some (.int v5) ∧ (v5 = 0 ∨ v5 = 1) ∧ Q (some (.int v5)) M4) := by
    intro i M' hfr h26 hdi hrx el
    have hlen := hdi.len
    obtain ⟨w1, w2⟩ := hrx.raw hf0 h27 el (by rw [hdi.1, el]) h26 (by omega) (fun x hx => by have := hμ1 x; omega)
    refine ur_becomes d (fr0 hfr).1 w1 hp (fun t ht => hμ1 _) (fun M1 res g1 g2 g3 g4 => ⟨_, rfl, ?_, hQ M1 res ((hfr.wk (by decide) (by decide)).tr g1 (by decide) (by decide)) (fun p' f' mc h1 h2 h3 h4 => g2 p' f' mc h1 h2 h3 (h4.fr hfr (by decide))) (g3.congr (fun u hu => (w2 u hu).trans (hbeta u))) g4⟩)
    cases res with
    | none => exact Or.inl rfl
    | some mc => exact Or.inr rfl
  -- the digits of a state
  have inner : ∀ i x6, (∀ M' z z1 z2 z3 z4, FrM M M' m [25, 26, 78] [20, 21, 28, 52] → x_i M' m 26 = nI f → DiI M' m far (ex δ f (far + 1) (i * f + f)) → RxI M' m f δ (far + 1) μ (i * f + f) (i + 1) → c1 z = true → c1 z1 = true → c1 z2 = true → c1 z3 = true → c1 z4 = true → LX12_sumsMachine_143 G (d + 5) 0 0 m (nI p) (iI (higS wt 8 - lowS wt 8)) (iI (if 0 ≤ less then less else -less)) (nI (i + 1)) z z1 z2 z3 z4 M' Q) →
      ∀ k j, j + k = f → ∀ M' x, FrM M M' m [25, 26, 78] [20, 21, 28, 52] → x_i M' m 26 = nI f → DiI M' m far (ex δ f (far + 1) (i * f + j)) → RxI M' m f δ (far + 1) μ (i * f + j) (i + 1) → (ex δ f (far + 1) (i * f + j)).getD i 0 = x → ∀ z z1, c1 z = true → c1 z1 = true → LX12_sumsMachine_282 G (d + 5) 0 0 m (nI p) (iI (higS wt 8 - lowS wt 8)) (iI (if 0 ≤ less then less else -less)) (nI i) (iI (dfv far x)) x6 (nI j) z z1 M' Q := by
    intro i x6 hout k
    induction k with
    | zero =>
      intro j hj M' x hfr h26 hdi hrx hx z z1 hz hz1
      have e : j = f := by omega
      rw [e] at hdi hrx ⊢
      refine vX12_sumsMachine_282 _ _ _ _ _ _ _ _ _ _ hz hz1 ⟨(fr0 hfr).1.1, fun _ => ?_, fun c => absurd (by rw [h26]; exact nI_le (Nat.le_refl f) (by omega)) c⟩
      rw [nI_1]
      exact hout M' _ _ _ _ _ hfr h26 hdi hrx rfl rfl rfl hz hz1
    | succ k ih =>
      intro j hj M' x hfr h26 hdi hrx hx z z1 hz hz1
      have hjf : j < f := by omega
      have hil : i < (ex δ f (far + 1) (i * f + j)).length := hrx.2.2.2
      have hlen := hdi.len
      obtain ⟨q1, q2⟩ := fr0 hfr
      have hxm : x ∈ ex δ f (far + 1) (i * f + j) := by rw [← hx]; exact getD_mem hil
      have hxb := hdi.2.2.2.1 x hxm
      have e1 : (i * f + j) / f = i := by rw [Nat.mul_comm, Nat.mul_add_div hf0, Nat.div_eq_of_lt hjf]; rfl
      have e2 : (i * f + j) % f = j := by rw [Nat.mul_comm, Nat.mul_add_mod]; exact Nat.mod_eq_of_lt hjf
      have hex : ex δ f (far + 1) (i * f + j + 1) = ins (ex δ f (far + 1) (i * f + j)) (δ x j) := by
        show ins _ _ = _
        rw [e1, e2, hx]
      have hexl : exl δ f (far + 1) (i * f + j) = (ins (ex δ f (far + 1) (i * f + j)) (δ x j)).idxOf (δ x j) := by
        unfold exl
        rw [e1, e2, hx, hex]
      have hx2 : (ex δ f (far + 1) (i * f + j + 1)).getD i 0 = x := by rw [← hx]; exact ex_getD _ 1 hil
      have hvb : -(far : Int) - 1 ≤ dfv far x ∧ dfv far x ≤ far + 1 := by unfold dfv; omega
      have e78 : x_i M' m 78 = iI far := hdi.2.2.2.2.2
      have eneg : -(iI (far : Int)) = iI (-(far : Int)) := iI_neg _
      have vin : vp_in (nI (27 * i + j)) (x_h M' (m + 20)).2 := by rw [q1.h20]; exact vp_in_nI (show 27 * i + j < 226800 by omega) (by omega)
      -- far away: it stays
      have stay : δ x j = x → ∀ x8 x9, ∀ M7, M7 = x_si M' (m + 20) (27 * i + j) (nI i) → LX12_sumsMachine_282 G (d + 5) 0 0 m (nI p) (iI (higS wt 8 - lowS wt 8)) (iI (if 0 ≤ less then less else -less)) (nI i) (iI (dfv far x)) x6 (nI (j + 1)) (some (.int x8)) (some (.int x9)) M7 Q := by
        rintro hst x8 x9 M7 rfl
        have hein : ex δ f (far + 1) (i * f + j + 1) = ex δ f (far + 1) (i * f + j) := by rw [hex, hst]; exact if_pos hxm
        have hidx : exl δ f (far + 1) (i * f + j) = i := by
          rw [hexl, hst, show ins (ex δ f (far + 1) (i * f + j)) x = ex δ f (far + 1) (i * f + j) from if_pos hxm, ← hx]
          exact idx_getD (ex_nd _) hil
        have g3 : FrM M' (x_si M' (m + 20) (27 * i + j) (nI i)) m [] [20] := FrM.rf.si (by decide) (by decide)
        refine ih (j + 1) (by omega) _ x (hfr.tr g3 (by decide) (by decide)) (by rw [xm_mo (by decide)]; exact h26) (by rw [← Nat.add_assoc, hein]; exact hdi.fr g3 (by decide) (by decide)) (hrx.link hf0 h27 rfl hjf hil (by rw [hidx])) hx2 _ _ rfl rfl
      refine vX12_sumsMachine_282 _ _ _ _ _ _ _ _ _ _ hz hz1 ⟨q1.1, fun c => absurd (by rw [h26] at c; exact c) (nI_ge (a := j) (b := f) (by omega) (by omega)), fun _ => ?_⟩
      refine ur_sload (d + 2) q1 hb1 hb3 hp hal (by omega) q2 ?_
      refine vX12_sumsMachine_297 _ _ _ _ _ _ _ _ _ _ ⟨fun _ => ⟨q1.1, m + 20, q1.r20, ?_⟩, fun c => absurd (nI_le (Nat.le_refl 8) (by omega)) c⟩
      rw [e78, eneg, iI_lt (by omega) (by omega) (by omega) (by omega), iI_le (by omega) (by omega) (by omega) (by omega), e27_, nI_clamp (by omega), nI_1]
      refine ⟨fun c => ⟨by rw [q1.h20], vin, stay (by rw [← hδ]; exact if_pos (Or.inl c)) _ _⟩, fun c => ⟨fun c2 => ?_, fun c2 => ⟨by rw [q1.h20], vin, stay (by rw [← hδ]; exact if_pos (Or.inr (by omega))) _ _⟩⟩⟩
      have hdd : δ x j = (cutD far ((b : Int) * dfv far x + ld b al wt j) + far + 1).toNat := by rw [← hδ]; exact if_neg (by omega)
      have hl := ldb j
      have hcb := cutD_bd (far := far) (v := (b : Int) * dfv far x + ld b al wt j)
      have hbx : -10000 ≤ (b : Int) * dfv far x + ld b al wt j ∧ (b : Int) * dfv far x + ld b al wt j ≤ 10000 := by rcases hb with e | e <;> subst e <;> omega
      have hbx2 : -10000 ≤ (b : Int) * dfv far x ∧ (b : Int) * dfv far x ≤ 10000 := by rcases hb with e | e <;> subst e <;> omega
      rw [q2.1, iI_n b, iI_l (by omega) (by omega), iI_l (by omega) (by omega), iI_l (by omega) (by omega), lI_mul, lI_add]
      refine ur_difference (d + 4) q1 hdi (by omega) (by omega) (by omega) (k := δ x j) (by rw [hdd]; omega) (fun M1 g1 g2 => ?_)
      rw [← hex] at g2
      rw [← hexl]
      have q1' := g1.S q1
      refine ⟨_, rfl, by rw [q1'.h20], by rw [q1'.h20]; exact vp_in_nI (show 27 * i + j < 226800 by omega) (by omega), ?_⟩
      rintro M2 rfl
      have g3 : FrM M1 (x_si M1 (m + 20) (27 * i + j) (nI (exl δ f (far + 1) (i * f + j)))) m [] [20] := FrM.rf.si (by decide) (by decide)
      exact ih (j + 1) (by omega) _ x ((hfr.tr g1 (by decide) (by decide)).tr g3 (by decide) (by decide)) (by rw [xm_mo (by decide), g1.fm (by decide)]; exact h26) (g2.fr g3 (by decide) (by decide)) ((hrx.fr g1 (by decide)).link hf0 h27 rfl hjf hil rfl) hx2 _ _ rfl rfl
  have outer : ∀ k i, i + k = 2 * far + 3 → ∀ M', FrM M M' m [25, 26, 78] [20, 21, 28, 52] → x_i M' m 26 = nI f → DiI M' m far (ex δ f (far + 1) (i * f)) → RxI M' m f δ (far + 1) μ (i * f) i → ∀ z z1 z2 z3 z4, c1 z = true → c1 z1 = true → c1 z2 = true → c1 z3 = true → c1 z4 = true → LX12_sumsMachine_143 G (d + 5) 0 0 m (nI p) (iI (higS wt 8 - lowS wt 8)) (iI (if 0 ≤ less then less else -less)) (nI i) z z1 z2 z3 z4 M' Q := by
    intro k
    induction k with
    | zero =>
      intro i hi M' hfr h26 hdi hrx z z1 z2 z3 z4 hz hz1 hz2 hz3 hz4
      have hlen := hdi.len
      have hle' := hrx.2.2.2
      have el : (ex δ f (far + 1) (i * f)).length = i := by omega
      exact vX12_sumsMachine_143 _ _ _ _ _ _ _ _ _ _ hz hz1 hz2 hz3 hz4 ⟨(fr0 hfr).1.1, fun _ => done i M' hfr h26 hdi hrx el, fun c => absurd (by rw [hdi.1, el]; exact nI_le (Nat.le_refl i) (by omega)) c⟩
    | succ k ih =>
      intro i hi M' hfr h26 hdi hrx z z1 z2 z3 z4 hz hz1 hz2 hz3 hz4
      have hlen := hdi.len
      have hle' := hrx.2.2.2
      obtain ⟨q1, q2⟩ := fr0 hfr
      refine vX12_sumsMachine_143 _ _ _ _ _ _ _ _ _ _ hz hz1 hz2 hz3 hz4 ⟨q1.1, fun c => ?_, fun c => ?_⟩
      · rw [hdi.1] at c
        have := (nI_leI (a := (ex δ f (far + 1) (i * f)).length) (b := i) (by omega) (by omega)).mp c
        exact done i M' hfr h26 hdi hrx (by omega)
      · rw [hdi.1] at c
        have hil : i < (ex δ f (far + 1) (i * f)).length := by
          rcases Nat.lt_or_ge i (ex δ f (far + 1) (i * f)).length with q | q
          · exact q
          · exact absurd (nI_le q (by omega)) c
        have h28 := hdi.2.2.1 i hil
        have hxb := hdi.2.2.2.1 _ (getD_mem hil)
        generalize hx : (ex δ f (far + 1) (i * f)).getD i 0 = x at h28 hxb
        have h28' : x_i M' (m + 28) i = iI (dfv far x) := h28
        have hvb : -(far : Int) - 1 ≤ dfv far x ∧ dfv far x ≤ far + 1 := by unfold dfv; omega
        have hcli : (nI i).toNatClampNeg = i := nI_clamp (by omega)
        have hclp : (nI p).toNatClampNeg = p := nI_clamp (by omega)
        have vin : ∀ {M' : Mem}, ReS M' m → vp_in (nI i) (x_h M' (m + 21)).2 := fun q => by rw [q.h21]; exact vp_in_nI (show i < 8400 by omega) (by omega)
        -- the mark is told; then the digits
        have go : ∀ (M3 : Mem) (w : Int32), FrM M' M3 m [] [21] → w = nI (μ x) → (∀ t, t ≠ i → x_i M3 (m + 21) t = x_i M' (m + 21) t) → x_i M3 (m + 21) i = w → ∀ x6 z z1, c1 z = true → c1 z1 = true → LX12_sumsMachine_282 G (d + 5) 0 0 m (nI p) (iI (higS wt 8 - lowS wt 8)) (iI (if 0 ≤ less then less else -less)) (nI i) (iI (dfv far x)) x6 0 z z1 M3 Q := by
          intro M3 w g1 hw hoth hat x6 z z1 hz hz1
          exact inner i x6 (fun M4 z z1 z2 z3 z4 b1 b2 b3 b4 hz hz1 hz2 hz3 hz4 => ih (i + 1) (by omega) M4 b1 b2 (by rw [Nat.succ_mul]; exact b3) (by rw [Nat.succ_mul]; exact b4) z z1 z2 z3 z4 hz hz1 hz2 hz3 hz4) f 0 (Nat.zero_add f) M3 x (hfr.tr g1 (by decide) (by decide)) (by rw [g1.fm (by decide)]; exact h26) (hdi.fr g1 (by decide) (by decide)) ⟨fun a' d' h1 h2 => by rw [g1.i (by decide) (by decide)]; exact hrx.1 a' d' h1 h2, fun t' ht' => by
            by_cases e : t' = i
            · rw [e, hat, hw]
              show nI (μ x) = nI (μ ((ex δ f (far + 1) (i * f)).getD i 0))
              rw [hx]
            · rw [hoth t' e]; exact hrx.2.1 t' (by omega), hrx.2.2.1, hil⟩ hx z z1 hz hz1
        -- behind the first mark
        have next : ∀ (v : Nat), v = cmpI sg (dfv far x + less) → ∀ x6 z7 z8 z9, c1 z7 = true → c1 z8 = true → c1 z9 = true → LX12_sumsMachine_233 G (d + 5) 0 0 m (nI p) (iI (higS wt 8 - lowS wt 8)) (iI (if 0 ≤ less then less else -less)) (nI i) (iI (dfv far x)) x6 z7 z8 z9 (m + 21) (nI i) (nI v) M' Q := by
          intro v hv x6 z7 z8 z9 h7 h8 h9
          refine vX12_sumsMachine_233 _ _ _ _ _ _ _ _ _ _ _ _ _ h7 h8 h9 ⟨by rw [q1.h21], vin q1, ?_⟩
          rintro M3 rfl
          have g1 : FrM M' (x_si M' (m + 21) i (nI v)) m [] [21] := FrM.rf.si (by decide) (by decide)
          rw [hcli]
          have q1' := g1.S q1
          have e78 : x_i (x_si M' (m + 21) i (nI v)) m 78 = iI far := by rw [xm_mo (by decide)]; exact hdi.2.2.2.2.2
          have e38 : x_i (x_si M' (m + 21) i (nI v)) (m + 38) p = nI (sg - 16) := by rw [xm_oo (by decide)]; exact q2.2.2.2.1
          have e0 : (0 : Int32) ≤ iI (dfv far x) ↔ 0 ≤ dfv far x := iI_le (a := 0) (by omega) (by omega) (by omega) (by omega)
          have es0 : nI (sg - 16) ≤ 0 ↔ sg - 16 ≤ 0 := nI_leI (b := 0) (by omega) (by omega)
          have two : ∀ (w : Int32), w = nI (μ x) → ∀ M10, M10 = x_si (x_si M' (m + 21) i (nI v)) (m + 21) i w → LX12_sumsMachine_282 G (d + 5) 0 0 m (nI p) (iI (higS wt 8 - lowS wt 8)) (iI (if 0 ≤ less then less else -less)) (nI i) (iI (dfv far x)) x6 0 z8 z9 M10 Q := by
            rintro w hw M10 rfl
            exact go _ w (g1.si (by decide) (by decide)) hw (fun t ht => by rw [xi_nk ht, xi_nk ht]) xi_eq x6 z8 z9 h8 h9
          have far_case : (dfv far x > far ∨ dfv far x < -(far : Int)) → ∃ b6, x_r (x_si M' (m + 21) i (nI v)) m 28 = some b6 ∧ (0 ≤ iI (dfv far x) → (x_h M' b6).1 = 1 ∧ vp_in (nI i) (x_h M' b6).2 ∧ (∀ M10, M10 = x_si (x_si M' (m + 21) i (nI v)) b6 i 0 → LX12_sumsMachine_282 G (d + 5) 0 0 m (nI p) (iI (higS wt 8 - lowS wt 8)) (iI (if 0 ≤ less then less else -less)) (nI i) (iI (dfv far x)) x6 0 z8 z9 M10 Q)) ∧ (¬ 0 ≤ iI (dfv far x) → ∃ b11, x_r (x_si M' (m + 21) i (nI v)) m 56 = some b11 ∧ (x_h M' b11).1 = 1 ∧ vp_in (nI p) (x_h M' b11).2 ∧ ((x_i (x_si M' (m + 21) i (nI v)) b11 (nI p).toNatClampNeg) ≤ 0 → (x_h M' b6).1 = 1 ∧ vp_in (nI i) (x_h M' b6).2 ∧ (∀ M17, M17 = x_si (x_si M' (m + 21) i (nI v)) b6 i 0 → LX12_sumsMachine_282 G (d + 5) 0 0 m (nI p) (iI (higS wt 8 - lowS wt 8)) (iI (if 0 ≤ less then less else -less)) (nI i) (iI (dfv far x)) x6 0 z8 z9 M17 Q)) ∧ (¬ (x_i (x_si M' (m + 21) i (nI v)) b11 (nI p).toNatClampNeg) ≤ 0 → (x_h M' b6).1 = 1 ∧ vp_in (nI i) (x_h M' b6).2 ∧ (∀ M20, M20 = x_si (x_si M' (m + 21) i (nI v)) b6 i 1 → LX12_sumsMachine_282 G (d + 5) 0 0 m (nI p) (iI (higS wt 8 - lowS wt 8)) (iI (if 0 ≤ less then less else -less)) (nI i) (iI (dfv far x)) x6 0 z8 z9 M20 Q))) := by
            intro hfarc
            have hmu : μ x = if dfv far x < 0 ∧ sg > 16 then 1 else 0 := by rw [← hμ]; exact if_pos hfarc
            rw [hclp]
            refine ⟨m + 21, q1.r21, fun c => ⟨by rw [q1.h21], vin q1, two 0 ?_⟩, fun c => ⟨m + 38, q1.r38, by rw [q1.h38], by rw [q1.h38]; exact vp_in_nI hp (by omega), ?_⟩⟩
            · rw [e0] at c
              rw [hmu, if_neg (by omega)]; rfl
            · rw [e0] at c
              rw [e38, es0]
              refine ⟨fun c2 => ⟨by rw [q1.h21], vin q1, two 0 ?_⟩, fun c2 => ⟨by rw [q1.h21], vin q1, two 1 ?_⟩⟩
              · rw [hmu, if_neg (by omega)]; rfl
              · rw [hmu, if_pos (by omega)]; rfl
          refine ⟨q1.1, ?_⟩
          rw [e78, iI_neg, iI_lt (by omega) (by omega) (by omega) (by omega), iI_le (by omega) (by omega) (by omega) (by omega)]
          refine ⟨fun c => far_case (Or.inl c), fun c => ⟨fun c2 => ?_, fun c2 => far_case (Or.inr (by omega))⟩⟩
          refine go _ (nI v) g1 ?_ (fun t ht => xi_nk ht) xi_eq x6 z8 z9 h8 h9
          rw [hv, ← hμ]
          unfold dfM
          rw [if_neg (by omega)]
        have eend : iI (dfv far x) + iI less = iI (dfv far x + less) := iI_add _ _
        have a0 : iI (dfv far x + less) = 0 ↔ dfv far x + less = 0 := iI_eq (b := 0) (by omega) (by omega) (by omega) (by omega)
        have a1 : (0 : Int32) < iI (dfv far x + less) ↔ 0 < dfv far x + less := iI_lt (a := 0) (by omega) (by omega) (by omega) (by omega)
        have a2 : (0 : Int32) ≤ iI (dfv far x + less) ↔ 0 ≤ dfv far x + less := iI_le (a := 0) (by omega) (by omega) (by omega) (by omega)
        have s0 : nI (sg - 16) = 0 ↔ sg - 16 = 0 := nI_eq (b := 0) (by omega) (by omega)
        have s1 : nI (sg - 16) = 1 ↔ sg - 16 = 1 := nI_eq (b := 1) (by omega) (by omega)
        have hnext : ∀ v : Nat, v = cmpI sg (dfv far x + less) → ∀ w : Int32, w = nI v → LX12_sumsMachine_233 G (d + 5) 0 0 m (nI p) (iI (higS wt 8 - lowS wt 8)) (iI (if 0 ≤ less then less else -less)) (nI i) (iI (dfv far x)) (iI (dfv far x + less)) z2 z3 z4 (m + 21) (nI i) w M' Q := fun v hv w hw => by rw [hw]; exact next v hv _ z2 z3 z4 hz2 hz3 hz4
        refine ⟨m + 28, q1.r28, by rw [q1.h28], by rw [q1.h28]; exact vp_in_nI (show i < 8400 by omega) (by omega), m + 37, q1.r37, by rw [q1.h37], by rw [q1.h37]; exact vp_in_nI hp (by omega), m + 21, q1.r21, m + 38, q1.r38, by rw [q1.h38], by rw [q1.h38]; exact vp_in_nI hp (by omega), ?_⟩
        rw [hcli, hclp, h28', q2.2.2.1, q2.2.2.2.1, eend, a0, a1, a2, s0, s1]
        unfold cmpI at hnext
        refine ⟨fun c0 => ⟨fun c1' => ⟨fun c2 => hnext 0 ?_ 0 rfl, fun c2 => hnext 1 ?_ 1 rfl⟩, fun c1' => ⟨fun c2 => hnext 0 ?_ 0 rfl, fun c2 => hnext 1 ?_ 1 rfl⟩⟩, fun c0 => ⟨fun c2 => hnext 0 ?_ 0 rfl, fun c2 => hnext 1 ?_ 1 rfl⟩⟩
        · rw [if_neg (by omega), if_neg (by omega), if_neg (by omega)]
        · rw [if_neg (by omega), if_neg (by omega), if_pos (by omega)]
        · rw [if_neg (by omega), if_pos (by omega), if_neg (by omega)]
        · rw [if_neg (by omega), if_pos (by omega), if_pos (by omega)]
        · rw [if_pos (by omega), if_neg c2]
        · rw [if_pos (by omega), if_pos c2]
  have clear : ∀ r k, k + r = 2 * far + 3 → ∀ M', FrM M M' m [25, 26, 78] [20, 21, 28, 52] → x_i M' m 78 = nI far → (∀ s, s < k → x_i M' (m + 52) s = -1) → LX12_sumsMachine_88 G (d + 5) 0 0 m (nI p) (iI (higS wt 8 - lowS wt 8)) (iI (if 0 ≤ less then less else -less)) (nI k) M' Q := by
    intro r
    induction r with
    | zero =>
      intro k hk M' hfr h78 hc
      obtain ⟨q1, q2⟩ := fr0 hfr
      have e2f : (2 : Int32) * x_i M' m 78 + 3 = nI (2 * far + 3) := by rw [h78, show (2 : Int32) = nI 2 from rfl, pk_mul, show (3 : Int32) = nI 3 from rfl, nI_add]
      refine vX12_sumsMachine_88 _ _ _ _ _ ⟨q1.1, fun _ => ?_, fun c => absurd (by rw [e2f, show k = 2 * far + 3 by omega]; exact nI_le (Nat.le_refl _) (by omega)) c⟩
      rintro M3 rfl
      have g1 := hfr.sm (k := 25) (v := 0) (by decide)
      obtain ⟨q3, q4⟩ := fr0 g1
      refine ⟨m + 35, q1.r35, by rw [q1.h35], by rw [q1.h35]; exact vp_in_nI hp (by omega), ?_⟩
      rw [nI_clamp (by omega), q4.2.2.2.2]
      refine u_across (d + 3) q3 q4.1 hal ⟨_, rfl, q3.1, ?_⟩
      rintro M4 rfl
      rw [hfg]
      have g2 := g1.sm (k := 26) (v := nI f) (by decide)
      refine ur_difference (far := far) (K := []) (k := far + 1) (v := 0) (d + 4) (fr0 g2).1 ⟨by rw [xi_nk (by decide), xi_eq]; rfl, fun s hs => by rw [if_neg List.not_mem_nil, xm_om (by decide), xm_om (by decide)]; exact hc s (by omega), fun t ht => absurd ht (Nat.not_lt_zero t), fun x hx => absurd hx List.not_mem_nil, List.nodup_nil, by rw [xi_nk (by decide), xi_nk (by decide)]; exact h78⟩ (by omega) (by omega) (by omega) (by unfold cutD; rw [if_neg (by omega), if_neg (by omega)]; omega) (fun M5 g3 g4 => ⟨_, rfl, ?_⟩)
      exact outer (2 * far + 3) 0 (by omega) M5 (g2.tr g3 (by decide) (by decide)) (by rw [g3.fm (by decide), xi_eq]) (by rw [Nat.zero_mul]; exact g4) (by rw [Nat.zero_mul]; exact RxI.start) none none none none none rfl rfl rfl rfl rfl
    | succ r ih =>
      intro k hk M' hfr h78 hc
      obtain ⟨q1, q2⟩ := fr0 hfr
      have e2f : (2 : Int32) * x_i M' m 78 + 3 = nI (2 * far + 3) := by rw [h78, show (2 : Int32) = nI 2 from rfl, pk_mul, show (3 : Int32) = nI 3 from rfl, nI_add]
      refine vX12_sumsMachine_88 _ _ _ _ _ ⟨q1.1, fun c => absurd (by rw [e2f] at c; exact c) (nI_ge (a := k) (b := 2 * far + 3) (by omega) (by omega)), fun _ => ⟨m + 52, q1.r52, by rw [q1.h52], by rw [q1.h52]; exact vp_in_nI (show k < 8400 by omega) (by omega), ?_⟩⟩
      rintro M2 rfl
      rw [nI_clamp (by omega), nI_1]
      refine ih (k + 1) (by omega) _ (hfr.si (by decide) (by decide)) (by rw [xm_mo (by decide)]; exact h78) (fun s hs => ?_)
      by_cases e : s = k
      · rw [e, xi_eq]
      · rw [xi_nk e]; exact hc s (by omega)
  have first : ∀ r n, n + r = 8 → ∀ z, c1 z = true → LX12_sumsMachine_4 G (d + 5) 0 0 m (nI p) (iI (higS wt n - lowS wt n)) (nI n) z M Q := by
    have mono : ∀ e j, j + e = 8 → lowS wt 8 ≤ lowS wt j ∧ higS wt j ≤ higS wt 8 := by
      intro e
      induction e with
      | zero => intro j hj; rw [show j = 8 by omega]; exact ⟨Int.le_refl _, Int.le_refl _⟩
      | succ e ih2 =>
        intro j hj
        have := ih2 (j + 1) (by omega)
        have h4 : lowS wt (j + 1) = lowS wt j - max (wt j) 0 := rfl
        have h5 : higS wt (j + 1) = higS wt j - min (wt j) 0 := rfl
        omega
    obtain ⟨i1, i2, i3, i4, i5⟩ := hI
    intro r
    induction r with
    | zero =>
      intro n hn z hz
      have e : n = 8 := by omega
      rw [e]
      have z0 : (0 : Int32) ≤ iI less ↔ 0 ≤ less := iI_le (a := 0) (by omega) (by omega) (by omega) (by omega)
      refine vX12_sumsMachine_4 _ _ _ _ _ hz ⟨fun _ => ⟨hs.1, m + 37, hs.r37, by rw [hs.h37], by rw [hs.h37]; exact vp_in_nI hp (by omega), ?_⟩, fun c => absurd (nI_le (Nat.le_refl 8) (by omega)) c⟩
      rw [nI_clamp (by omega), i3, z0, iI_neg, iI_le (by omega) (by omega) (by omega) (by omega), iI_le (by omega) (by omega) (by omega) (by omega)]
      have fin : ∀ (w : Int), w = far → ∀ M8, M8 = x_si M m 78 (iI w) → LX12_sumsMachine_88 G (d + 5) 0 0 m (nI p) (iI (higS wt 8 - lowS wt 8)) (iI (if 0 ≤ less then less else -less)) 0 M8 Q := by
        rintro w hw M8 rfl
        exact clear (2 * far + 3) 0 (by omega) _ (FrM.rf.sm (by decide)) (by rw [xi_eq, hw]; rfl) (fun s hs => absurd hs (Nat.not_lt_zero s))
      refine ⟨fun c => ?_, fun c => ?_⟩
      · rw [if_pos c] at fin hfar
        exact ⟨fun c2 => fin _ (by omega), fun c2 => fin _ (by omega)⟩
      · rw [if_neg c] at fin hfar
        exact ⟨fun c2 => fin _ (by omega), fun c2 => fin _ (by omega)⟩
    | succ r ih =>
      intro n hn z hz
      have h4 : lowS wt (n + 1) = lowS wt n - max (wt n) 0 := rfl
      have h5 : higS wt (n + 1) = higS wt n - min (wt n) 0 := rfl
      have m1 := mono (r + 1) n (by omega)
      have m2 := mono r (n + 1) (by omega)
      have l0 : lowS wt n ≤ 0 ∧ 0 ≤ higS wt n := by
        have : ∀ t, lowS wt t ≤ 0 ∧ 0 ≤ higS wt t := by
          intro t
          induction t with
          | zero => exact ⟨Int.le_refl 0, Int.le_refl 0⟩
          | succ t iht =>
            have h6 : lowS wt (t + 1) = lowS wt t - max (wt t) 0 := rfl
            have h7 : higS wt (t + 1) = higS wt t - min (wt t) 0 := rfl
            omega
        exact this n
      have hwb : -2000 ≤ wt n ∧ wt n ≤ 2000 := by omega
      have z0 : (0 : Int32) ≤ iI (wt n) ↔ 0 ≤ wt n := iI_le (a := 0) (by omega) (by omega) (by omega) (by omega)
      refine vX12_sumsMachine_4 _ _ _ _ _ hz ⟨fun c => absurd c (nI_ge (a := n) (b := 8) (by omega) (by omega)), fun _ => ⟨hs.1, m + 36, hs.r36, by rw [hs.h36], by rw [e8_, hs.h36]; exact vp_in_nI (show 8 * p + n < 1040 by omega) (by omega), ?_⟩⟩
      rw [e8_, nI_clamp (by omega), i2 n (by omega), z0, iI_neg, iI_add, iI_add, nI_1]
      refine ⟨fun c => ?_, fun c => ?_⟩
      · have := ih (n + 1) (by omega) (some (.int (iI (wt n)))) rfl
        rw [show higS wt (n + 1) - lowS wt (n + 1) = higS wt n - lowS wt n + wt n by omega] at this
        exact this
      · have := ih (n + 1) (by omega) (some (.int (iI (wt n)))) rfl
        rw [show higS wt (n + 1) - lowS wt (n + 1) = higS wt n - lowS wt n + -wt n by omega] at this
        exact this
  exact eX12_sumsMachine m _ (first 8 0 rfl none rfl)
end RSums2C
