/-! ===== the reference: pairs of two sides ===== -/
section RLetC
variable {G : GG} {M : Mem} {m b : Nat} {Q : Option Value → Mem → Prop}
/-- the right side of an atom of rows: a number, or the machine of side 1 -/
def RtI (M : Mem) (m p b : Nat) (x2 : Int32) (nB sB : Nat) (mr : Mc) : Prop := (x2 = -1 ∧ mr = (1, fun _ _ => 0, fun _ => nB) ∧ x_i M (m + 46) p = nI nB) ∨ (x2 ≠ -1 ∧ SiR M m 1 (fn b sB) mr)
theorem RtI.fr {M' : Mem} {p nB sB : Nat} {x2 : Int32} {mr : Mc} {F A : List Nat} (h : RtI M m p b x2 nB sB mr) (g : FrM M M' m F A) (h1 : 46 ∉ A ∧ 53 ∉ A ∧ 54 ∉ A ∧ 55 ∉ A) : RtI M' m p b x2 nB sB mr := by
  rcases h with ⟨h2, h3, h4⟩ | ⟨h2, h3⟩
  · exact Or.inl ⟨h2, h3, by rw [g.i (by decide) h1.1]; exact h4⟩
  · exact Or.inr ⟨h2, h3.fr g h1.2⟩
theorem jn0 {x y : Nat} : jn 0 x y = if x = y then 1 else 0 := rfl
theorem ur_let141 (d : Nat) (hs : ReS M m) (hb : x_i M m 0 = nI b) (hb1 : 1 < b) (hb3 : b ≤ 3) {p al sl sr nB : Nat} {x2 : Int32} {ml mr : Mc} (hp : p < 130) (hal : al < 256) (hsl : sl < 256) (hsr : sr < 256) (h27 : fn b al ≤ 27) (hfl : fn b sl ≤ 27) (hfr' : fn b sr ≤ 27)
    (hml : SiR M m 0 (fn b sl) ml) (hmr : RtI M m p b x2 nB sr mr) (hnl : 0 < m_n ml ∧ m_n ml ≤ 40) (hnr : 0 < m_n mr ∧ m_n mr ≤ 40) (hcl : ∀ i, i < m_n ml → ∀ g, g < fn b sl → m_s ml i g < m_n ml) (hcr : ∀ i, i < m_n mr → ∀ g, g < fn b sr → m_s mr i g < m_n mr) (hkl : ∀ i, i < m_n ml → m_k ml i < 8) (hkr : ∀ i, i < m_n mr → m_k mr i < 8) (h26 : x_i M m 26 = nI (fn b al)) (hpr : PrI M m [0])
    (hQ : ∀ M' res, FrM M M' m [25, 26, 29] [20, 21, 22, 23, 24, 25, 26, 27, 28, 29, 48, 49, 50] → RePk M M' m p → LRes (fn b al) 40 (fun u => jn 0 (m_b ml (u.map (vw b al sl))) (m_b mr (u.map (vw b al sr)))) res → (∀ mc, res = some mc → ReP M' m p (fn b al) mc) → Q (some (.int (nI (if res.isSome = true then 1 else 0)))) M') :
    LX12_lettersMachine_141 G (d + 5) 0 0 m (nI p) x2 (nI al) (nI sl) (nI sr) (nI 0) none none none none none M Q := by
  have hf0 : 0 < fn b al := fn_pos (by omega)
  have hvl : ∀ g, vw b al sl g < fn b sl := fun g => vw_lt (by omega)
  have hvr : ∀ g, vw b al sr g < fn b sr := fun g => vw_lt (by omega)
  generalize hδ : prD b 60 al sl sr (m_s ml) (m_s mr) = δ
  generalize hμ : prM 60 0 (m_k ml) (m_k mr) = μ
  generalize hfg : fn b al = f at *
  have hδx : ∀ x g, δ x g = m_s ml (x / 60) (vw b al sl g) * 60 + m_s mr (x % 60) (vw b al sr g) := fun x g => by rw [← hδ]; rfl
  have hμx : ∀ x, μ x = if m_k ml (x / 60) = m_k mr (x % 60) then 1 else 0 := fun x => by rw [← hμ]; rfl
  have hKn : ∀ c, ∀ x ∈ ex δ f 0 c, x / 60 < m_n ml ∧ x % 60 < m_n mr := by
    intro c
    induction c with
    | zero => intro x hx; rw [List.mem_singleton.mp hx]; exact ⟨hnl.1, hnr.1⟩
    | succ c ih =>
      intro x hx
      rcases ins_of.mp hx with q | q
      · exact ih x q
      · have hg : (ex δ f 0 c).getD (c / f) 0 / 60 < m_n ml ∧ (ex δ f 0 c).getD (c / f) 0 % 60 < m_n mr := by
          by_cases hc : c / f < (ex δ f 0 c).length
          · exact ih _ (getD_mem hc)
          · rw [List.getD_eq_getElem?_getD, List.getElem?_eq_none (by omega)]
            exact ⟨hnl.1, hnr.1⟩
        have h1 := hcl _ hg.1 _ (hvl (c % f))
        have h2 := hcr _ hg.2 _ (hvr (c % f))
        rw [q, hδx]
        generalize m_s ml ((ex δ f 0 c).getD (c / f) 0 / 60) (vw b al sl (c % f)) = X at h1 ⊢
        generalize m_s mr ((ex δ f 0 c).getD (c / f) 0 % 60) (vw b al sr (c % f)) = Y at h2 ⊢
        constructor <;> omega
  have hμ1 : ∀ x, μ x ≤ 1 := fun x => by rw [hμx]; split <;> omega
  have hbeta : ∀ u, wd f u → μ (dl δ 0 u) = jn 0 (m_b ml (u.map (vw b al sl))) (m_b mr (u.map (vw b al sr))) := fun u hu => by
    rw [← hμ, ← hδ, dl_0 (nb := 60), pr_tells2 (f := f) (nB := m_n mr) (by omega) (fun i hi g _ => hcr i hi _ (hvr g)) u 0 0 hu hnr.1]
    rfl
  have fr0 : ∀ {M' : Mem}, FrM M M' m [25, 26] [20, 21, 27, 28, 29] → ReS M' m ∧ x_i M' m 0 = nI b ∧ SiR M' m 0 (fn b sl) ml ∧ RtI M' m p b x2 nB sr mr := fun q => ⟨q.S hs, by rw [q.fm (by decide)]; exact hb, hml.fr q (by decide), hmr.fr q (by decide)⟩
  have done : ∀ i M', FrM M M' m [25, 26] [20, 21, 27, 28, 29] → x_i M' m 26 = nI f → PrI M' m (ex δ f 0 (i * f)) → RxI M' m f δ 0 μ (i * f) i → (ex δ f 0 (i * f)).length = i → Call G (d + 5) 0 0 mX12_becomes [.ref m, .int (nI p)] M' (fun r3 M4 => ∃ v5 : Int32, r3 = some (.int v5) ∧ (v5 = 0 ∨ v5 = 1) ∧ Q (some (.int v5)) M4) := by
    intro i M' hfr h26 hpr hrx el
    have hlen := hpr.len
    obtain ⟨w1, w2⟩ := hrx.raw hf0 h27 el (by rw [hpr.1, el]) h26 (by omega) (fun x hx => by have := hμ1 x; omega)
    refine ur_becomes d (fr0 hfr).1 w1 hp (fun t ht => hμ1 _) (fun M1 res g1 g2 g3 g4 => ⟨_, rfl, ?_, hQ M1 res ((hfr.wk (by decide) (by decide)).tr g1 (by decide) (by decide)) (fun p' f' mc h1 h2 h3 h4 => g2 p' f' mc h1 h2 h3 (h4.fr hfr (by decide))) (g3.congr (fun u hu => (w2 u hu).trans (hbeta u hu))) g4⟩)
    cases res with
    | none => exact Or.inl rfl
    | some mc => exact Or.inr rfl
  have inner : ∀ i, (∀ M' z z1 z2 z3 z4, FrM M M' m [25, 26] [20, 21, 27, 28, 29] → x_i M' m 26 = nI f → PrI M' m (ex δ f 0 (i * f + f)) → RxI M' m f δ 0 μ (i * f + f) (i + 1) → c1 z = true → c1 z1 = true → c1 z2 = true → c1 z3 = true → c1 z4 = true → LX12_lettersMachine_141 G (d + 5) 0 0 m (nI p) x2 (nI al) (nI sl) (nI sr) (nI (i + 1)) z z1 z2 z3 z4 M' Q) →
      ∀ k j, j + k = f → ∀ M', FrM M M' m [25, 26] [20, 21, 27, 28, 29] → x_i M' m 26 = nI f → PrI M' m (ex δ f 0 (i * f + j)) → RxI M' m f δ 0 μ (i * f + j) (i + 1) → ∀ x7 x8 z z1, c1 z = true → c1 z1 = true → LX12_lettersMachine_217 G (d + 5) 0 0 m (nI p) x2 (nI al) (nI sl) (nI sr) (nI i) x7 x8 (nI j) z z1 M' Q := by
    intro i hout k
    induction k with
    | zero =>
      intro j hj M' hfr h26 hpr hrx x7 x8 z z1 hz hz1
      have e : j = f := by omega
      rw [e] at hpr hrx ⊢
      refine vX12_lettersMachine_217 _ _ _ _ _ _ _ _ _ _ _ _ hz hz1 ⟨(fr0 hfr).1.1, fun _ => ?_, fun c => absurd (by rw [h26]; exact nI_le (Nat.le_refl f) (by omega)) c⟩
      rw [nI_1]
      exact hout M' _ _ _ _ _ hfr h26 hpr hrx rfl rfl rfl hz hz1
    | succ k ih =>
      intro j hj M' hfr h26 hpr hrx x7 x8 z z1 hz hz1
      have hjf : j < f := by omega
      have hil : i < (ex δ f 0 (i * f + j)).length := hrx.2.2.2
      have hlen := hpr.len
      obtain ⟨q1, q2, q3, q4⟩ := fr0 hfr
      obtain ⟨t1, t2⟩ := hpr.2.2.1 i hil
      obtain ⟨kn1, kn2⟩ := hKn _ _ (getD_mem hil)
      generalize hxe : (ex δ f 0 (i * f + j)).getD i 0 = x at t1 t2 kn1 kn2
      have e1 : (i * f + j) / f = i := by rw [Nat.mul_comm, Nat.mul_add_div hf0, Nat.div_eq_of_lt hjf]; rfl
      have e2 : (i * f + j) % f = j := by rw [Nat.mul_comm, Nat.mul_add_mod]; exact Nat.mod_eq_of_lt hjf
      have hkey : δ ((ex δ f 0 (i * f + j)).getD ((i * f + j) / f) 0) ((i * f + j) % f) = m_s ml (x / 60) (vw b al sl j) * 60 + m_s mr (x % 60) (vw b al sr j) := by rw [e1, e2, hxe, hδx]
      have hex : ex δ f 0 (i * f + j + 1) = ins (ex δ f 0 (i * f + j)) (m_s ml (x / 60) (vw b al sl j) * 60 + m_s mr (x % 60) (vw b al sr j)) := by rw [← hkey]; rfl
      have hexl : exl δ f 0 (i * f + j) = (ins (ex δ f 0 (i * f + j)) (m_s ml (x / 60) (vw b al sl j) * 60 + m_s mr (x % 60) (vw b al sr j))).idxOf (m_s ml (x / 60) (vw b al sl j) * 60 + m_s mr (x % 60) (vw b al sr j)) := by rw [← hex, ← hkey]; rfl
      have hsl' := hcl _ kn1 _ (hvl j)
      have hsr' := hcr _ kn2 _ (hvr j)
      have hvlj := hvl j
      have hvrj := hvr j
      have vin : vp_in (nI i) 8400 := vp_in_nI (show i < 8400 by omega) (by omega)
      have hcli : (nI i).toNatClampNeg = i := nI_clamp (by omega)
      have hs1 : x_i M' (m + 53) (27 * (x / 60) + vw b al sl j) = nI (m_s ml (x / 60) (vw b al sl j)) := by
        have := q3.2.2 _ kn1 _ hvlj
        rw [show 27 * (40 * 0 + x / 60) + vw b al sl j = 27 * (x / 60) + vw b al sl j by omega] at this
        exact this
      -- both steps made: their pair
      have tail : ∀ z z', c1 z = true → c1 z' = true → Call G (d + 5) 0 0 mX12_paired [.ref m, .int (nI (m_s ml (x / 60) (vw b al sl j))), .int (nI (m_s mr (x % 60) (vw b al sr j)))] M' (fun r25 M26 => ∃ v27 : Int32, r25 = some (.int v27) ∧ (x_h M26 (m + 20)).1 = 1 ∧ vp_in ((27 * nI i) + nI j) (x_h M26 (m + 20)).2 ∧ (∀ M30, M30 = x_si M26 (m + 20) ((27 * nI i) + nI j).toNatClampNeg v27 → LX12_lettersMachine_217 G (d + 5) 0 0 m (nI p) x2 (nI al) (nI sl) (nI sr) (nI i) x7 x8 (nI j + 1) z z' M30 Q)) := by
        intro z z' hz hz'
        refine ur_paired (d + 4) q1 hpr (by omega) (by omega) (fun M1 g1 g2 => ?_)
        rw [← hex] at g2
        rw [← hexl]
        have q1' := g1.S q1
        rw [e27_]
        refine ⟨_, rfl, by rw [q1'.h20], by rw [q1'.h20]; exact vp_in_nI (show 27 * i + j < 226800 by omega) (by omega), ?_⟩
        rintro M2 rfl
        rw [nI_clamp (by omega), nI_1]
        have g3 : FrM M1 (x_si M1 (m + 20) (27 * i + j) (nI (exl δ f 0 (i * f + j)))) m [] [20] := FrM.rf.si (by decide) (by decide)
        exact ih (j + 1) (by omega) _ ((hfr.tr g1 (by decide) (by decide)).tr g3 (by decide) (by decide)) (by rw [xm_mo (by decide), g1.fm (by decide)]; exact h26) (g2.fr g3 (by decide) (by decide)) ((hrx.fr g1 (by decide)).link hf0 h27 rfl hjf hil rfl) x7 x8 _ _ hz hz'
      refine vX12_lettersMachine_217 _ _ _ _ _ _ _ _ _ _ _ _ hz hz1 ⟨q1.1, fun c => absurd (by rw [h26] at c; exact c) (nI_ge (a := j) (b := f) (by omega) (by omega)), fun _ => ⟨m + 53, q1.r53, m + 28, q1.r28, by rw [q1.h28], by rw [q1.h28]; exact vin, ?_⟩⟩
      rw [hcli, t1]
      refine ur_within (d + 1) q1 q2 hb1 hb3 (by omega) hal hsl ⟨_, rfl, by rw [q1.h53], ?_⟩
      rw [e27_, nI_clamp (n := 27 * (x / 60) + vw b al sl j) (by omega), hs1]
      refine ⟨by rw [q1.h53]; exact vp_in_nI (show 27 * (x / 60) + vw b al sl j < 2160 by omega) (by omega), fun c => ⟨q1.1, m + 53, q1.r53, m + 29, q1.r29, by rw [q1.h29], by rw [q1.h29]; exact vin, ?_⟩, fun c => ⟨q1.1, m + 20, q1.r20, ?_⟩⟩
      · rcases q4 with ⟨h2, -, -⟩ | ⟨h2, h3⟩
        · exact absurd h2 c
        · rw [t2]
          refine ur_within (d + 1) q1 q2 hb1 hb3 (by omega) hal hsr ⟨_, rfl, by rw [q1.h53], ?_⟩
          rw [show (40 : Int32) = nI 40 from rfl, nI_add, e27_, nI_clamp (n := 27 * (40 + x % 60) + vw b al sr j) (by omega)]
          have hs2 : x_i M' (m + 53) (27 * (40 + x % 60) + vw b al sr j) = nI (m_s mr (x % 60) (vw b al sr j)) := by
            have := h3.2.2 _ kn2 _ hvrj
            rw [show 27 * (40 * 1 + x % 60) + vw b al sr j = 27 * (40 + x % 60) + vw b al sr j by omega] at this
            exact this
          rw [hs2]
          exact ⟨by rw [q1.h53]; exact vp_in_nI (show 27 * (40 + x % 60) + vw b al sr j < 2160 by omega) (by omega), q1.1, m + 20, q1.r20, tail _ _ rfl rfl⟩
      · rcases q4 with ⟨h2, h3, h4⟩ | ⟨h2, h3⟩
        · have e0 : m_s mr (x % 60) (vw b al sr j) = 0 := by rw [h3]; rfl
          have t0 := tail (some (.int (nI (m_s ml (x / 60) (vw b al sl j))))) (some (.int 0)) rfl rfl
          rw [e0] at t0
          exact t0
        · exact absurd c h2
  have outer : ∀ k i, i + k = 3600 → ∀ M', FrM M M' m [25, 26] [20, 21, 27, 28, 29] → x_i M' m 26 = nI f → PrI M' m (ex δ f 0 (i * f)) → RxI M' m f δ 0 μ (i * f) i → ∀ z z1 z2 z3 z4, c1 z = true → c1 z1 = true → c1 z2 = true → c1 z3 = true → c1 z4 = true → LX12_lettersMachine_141 G (d + 5) 0 0 m (nI p) x2 (nI al) (nI sl) (nI sr) (nI i) z z1 z2 z3 z4 M' Q := by
    intro k
    induction k with
    | zero =>
      intro i hi M' hfr h26 hpr hrx z z1 z2 z3 z4 hz hz1 hz2 hz3 hz4
      have hlen := hpr.len
      have hle := hrx.2.2.2
      have el : (ex δ f 0 (i * f)).length = i := by omega
      exact vX12_lettersMachine_141 _ _ _ _ _ _ _ _ _ _ _ _ hz hz1 hz2 hz3 hz4 ⟨(fr0 hfr).1.1, fun _ => done i M' hfr h26 hpr hrx el, fun c => absurd (by rw [hpr.1, el]; exact nI_le (Nat.le_refl i) (by omega)) c⟩
    | succ k ih =>
      intro i hi M' hfr h26 hpr hrx z z1 z2 z3 z4 hz hz1 hz2 hz3 hz4
      have hlen := hpr.len
      have hle := hrx.2.2.2
      obtain ⟨q1, q2, q3, q4⟩ := fr0 hfr
      refine vX12_lettersMachine_141 _ _ _ _ _ _ _ _ _ _ _ _ hz hz1 hz2 hz3 hz4 ⟨q1.1, fun c => ?_, fun c => ?_⟩
      · rw [hpr.1] at c
        have := (nI_leI (a := (ex δ f 0 (i * f)).length) (b := i) (by omega) (by omega)).mp c
        exact done i M' hfr h26 hpr hrx (by omega)
      · rw [hpr.1] at c
        have hil : i < (ex δ f 0 (i * f)).length := by
          rcases Nat.lt_or_ge i (ex δ f 0 (i * f)).length with q | q
          · exact q
          · exact absurd (nI_le q (by omega)) c
        obtain ⟨t1, t2⟩ := hpr.2.2.1 i hil
        obtain ⟨kn1, kn2⟩ := hKn _ _ (getD_mem hil)
        have hmx := hμx ((ex δ f 0 (i * f)).getD i 0)
        generalize hxe : (ex δ f 0 (i * f)).getD i 0 = x at t1 t2 kn1 kn2 hmx
        have vin : vp_in (nI i) 8400 := vp_in_nI (show i < 8400 by omega) (by omega)
        have ha := hkl _ kn1
        have hb' := hkr _ kn2
        have hcli : (nI i).toNatClampNeg = i := nI_clamp (by omega)
        have hclp : (nI p).toNatClampNeg = p := nI_clamp (by omega)
        have hA : x_i M' (m + 54) (x / 60) = nI (m_k ml (x / 60)) := by
          have := q3.2.1 _ kn1
          rw [show 40 * 0 + x / 60 = x / 60 by omega] at this
          exact this
        have eAB : nI (m_k ml (x / 60)) = nI (m_k mr (x % 60)) ↔ m_k ml (x / 60) = m_k mr (x % 60) := nI_eq (by omega) (by omega)
        have go : ∀ (w : Int32), w = nI (μ x) → ∀ x7 x8, (x_h M' (m + 21)).1 = 1 ∧ vp_in (nI i) (x_h M' (m + 21)).2 ∧ ∀ M26, M26 = x_si M' (m + 21) i w → LX12_lettersMachine_217 G (d + 5) 0 0 m (nI p) x2 (nI al) (nI sl) (nI sr) (nI i) x7 x8 0 z3 z4 M26 Q := by
          rintro w hw x7 x8
          refine ⟨by rw [q1.h21], by rw [q1.h21]; exact vin, ?_⟩
          rintro M2 rfl
          have g3 : FrM M' (x_si M' (m + 21) i w) m [] [21] := FrM.rf.si (by decide) (by decide)
          exact inner i (fun M3 z z1 z2 z3 z4 b1 b2 b3 b4 hz hz1 hz2 hz3 hz4 => ih (i + 1) (by omega) M3 b1 b2 (by rw [Nat.succ_mul]; exact b3) (by rw [Nat.succ_mul]; exact b4) z z1 z2 z3 z4 hz hz1 hz2 hz3 hz4) f 0 (by omega) _ (hfr.tr g3 (by decide) (by decide)) (by rw [xm_mo (by decide)]; exact h26) (hpr.fr g3 (by decide) (by decide)) (hrx.mark hil (by rw [hw, hxe])) x7 x8 z3 z4 hz3 hz4
        refine ⟨m + 54, q1.r54, m + 28, q1.r28, by rw [q1.h28], by rw [q1.h28]; exact vin, by rw [q1.h54], ?_⟩
        rw [hcli, t1, nI_clamp (n := x / 60) (by omega), hA]
        refine ⟨by rw [q1.h54]; exact vp_in_nI (show x / 60 < 80 by omega) (by omega), fun cx => ?_, fun cx => ?_⟩
        · rcases q4 with ⟨h2, -, -⟩ | ⟨h2, h3⟩
          · exact absurd h2 cx
          · have hB : x_i M' (m + 54) (40 + x % 60) = nI (m_k mr (x % 60)) := by
              have := h3.2.1 _ kn2
              rw [show 40 * 1 + x % 60 = 40 + x % 60 by omega] at this
              exact this
            refine ⟨m + 29, q1.r29, by rw [q1.h29], by rw [q1.h29]; exact vin, ?_⟩
            rw [t2, show (40 : Int32) = nI 40 from rfl, nI_add, nI_clamp (n := 40 + x % 60) (by omega), hB, eAB]
            refine ⟨by rw [q1.h54]; exact vp_in_nI (show 40 + x % 60 < 80 by omega) (by omega), m + 21, q1.r21, fun cc => go 0 (by rw [hmx, if_neg cc]; rfl) _ _, fun cc => go 1 (by rw [hmx, if_pos cc]; rfl) _ _⟩
        · rcases q4 with ⟨h2, h3, h4⟩ | ⟨h2, h3⟩
          · have hB : nI nB = nI (m_k mr (x % 60)) := by rw [h3]; rfl
            refine ⟨m + 46, q1.r46, by rw [q1.h46], by rw [q1.h46]; exact vp_in_nI hp (by omega), ?_⟩
            rw [hclp, h4, hB, eAB]
            refine ⟨m + 21, q1.r21, fun cc => go 0 (by rw [hmx, if_neg cc]; rfl) _ _, fun cc => go 1 (by rw [hmx, if_pos cc]; rfl) _ _⟩
          · exact absurd cx h2
  exact outer 3600 0 (by omega) M FrM.rf h26 (by rw [Nat.zero_mul]; exact hpr) (by rw [Nat.zero_mul]; exact RxI.start) none none none none none rfl rfl rfl rfl rfl
end RLetC
