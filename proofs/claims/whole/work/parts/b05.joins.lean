/-! ===== the reference: digits of names, two parts at once ===== -/
section RJoinsC
theorem mask_names : ∀ x, x < 256 → ∀ n, n < 8 → (nI x &&& (((2 <<< (nI n &&& 31)) - 1) ^^^ (-1))) = nI (x / 2 ^ (n + 1) * 2 ^ (n + 1)) ∧ pc (x / 2 ^ (n + 1) * 2 ^ (n + 1)) = ab x (7 - n) ∧ x / 2 ^ (n + 1) * 2 ^ (n + 1) < 256 := by decide +kernel
variable {G : GG} {M : Mem} {m b : Nat} {Q : Option Value → Mem → Prop}
theorem ur_digitOf (d : Nat) (hs : ReS M m) (hb : x_i M m 0 = nI b) (hb1 : 1 < b) (hb3 : b ≤ 3) {k al n : Nat} (hk : k < 2 ^ 30) (ha : al < 256) (hn : n < 8) (hQ : Q (some (.int (nI (k / b ^ ab al (7 - n) % b)))) M) : Call G (d + 3) 0 0 mX12_digitOf [.ref m, .int (nI k), .int (nI al), .int (nI n)] M Q := by
  obtain ⟨e1, e2, e3⟩ := mask_names al ha n hn
  refine eX12_digitOf m _ _ _ ⟨hs.1, ?_⟩
  rw [e1]
  refine u_across d hs hb e3 ?_
  have hf := fn_le6561 (b := b) (x := al / 2 ^ (n + 1) * 2 ^ (n + 1)) hb3 (by omega)
  have hf0 : 0 < fn b (al / 2 ^ (n + 1) * 2 ^ (n + 1)) := fn_pos (by omega)
  have ef : fn b (al / 2 ^ (n + 1) * 2 ^ (n + 1)) = b ^ ab al (7 - n) := by unfold fn; rw [e2]
  refine ⟨_, rfl, nI_ne0 hf0 (by omega), hs.1, by rw [hb]; exact nI_ne0 (by omega) (by omega), ?_⟩
  rw [hb, pk_div (by omega) hf0 (by omega), pk_rem (Nat.lt_of_le_of_lt (Nat.div_le_self _ _) (by omega)) (by omega) (by omega), ef]
  exact hQ
theorem ur_within (d : Nat) (hs : ReS M m) (hb : x_i M m 0 = nI b) (hb1 : 1 < b) (hb3 : b ≤ 3) {k al sm : Nat} (hk : k < 2 ^ 30) (ha : al < 256) (hsm : sm < 256) (hQ : Q (some (.int (nI (vw b al sm k)))) M) : Call G (d + 4) 0 0 mX12_within [.ref m, .int (nI k), .int (nI al), .int (nI sm)] M Q := by
  refine eX12_within m _ _ _ ?_
  have key : ∀ r n v, n + r = 8 → v * b ^ ab sm r + vs b al sm k r = vw b al sm k → LX12_within_6 G (d + 3) 0 0 m (nI k) (nI al) (nI sm) (nI v) (nI n) M Q := by
    intro r
    induction r with
    | zero =>
      intro n v hn hv
      have e : n = 8 := by omega
      subst e
      have : v = vw b al sm k := by
        have h0 : v * b ^ 0 + 0 = vw b al sm k := hv
        rw [Nat.pow_zero, Nat.mul_one] at h0
        exact h0
      exact vX12_within_6 _ _ _ _ _ _ ⟨fun _ => by rw [this]; exact hQ, fun c => absurd (nI_le (Nat.le_refl 8) (by omega)) c⟩
    | succ r ih =>
      intro n v hn hv
      have er : 7 - r = n := by omega
      have er2 : 7 - n = r := by omega
      have v1 : vs b al sm k (r + 1) = if bt sm (7 - r) = 1 then vs b al sm k r + k / b ^ ab al r % b * b ^ ab sm r else vs b al sm k r := rfl
      have v2 : ab sm (r + 1) = ab sm r + bt sm (7 - r) := rfl
      rw [er] at v1 v2
      refine vX12_within_6 _ _ _ _ _ _ ⟨fun c => absurd c (nI_ge (a := n) (b := 8) (by omega) (by omega)), fun _ => ?_⟩
      rw [sb (by omega) (by omega), sb1, nI_1]
      refine ⟨fun c => ih (n + 1) v (by omega) ?_, fun c => ⟨hs.1, ?_⟩⟩
      · have hb0 : bt sm n = 0 := by have := bt_le (x := sm) (n := n); omega
        rw [v1, v2, if_neg c, hb0] at hv
        exact hv
      · refine ur_digitOf d hs hb hb1 hb3 hk ha (by omega) ⟨_, rfl, ?_⟩
        rw [hb, er2, pk_mul, nI_add]
        refine ih (n + 1) _ (by omega) ?_
        rw [v1, v2, if_pos c, c, Nat.pow_succ] at hv
        rw [← hv, Nat.add_mul, Nat.mul_comm b v, Nat.mul_assoc, Nat.mul_comm b (b ^ ab sm r)]
        omega
  refine key 8 0 0 (by omega) ?_
  rw [Nat.zero_mul, Nat.zero_add]
  rfl
theorem ur_pTo (d : Nat) (hs : ReS M m) {p f i k : Nat} {mc : Mc} (h : ReP M m p f mc) (hp : p < 130) (hn : m_n mc ≤ 40) (hf : f ≤ 27) (hi : i < m_n mc) (hk : k < f) (hQ : Q (some (.int (nI (m_s mc i k)))) M) : Call G (d + 1) 0 0 mX12_pTo [.ref m, .int (nI p), .int (nI i), .int (nI k)] M Q := by
  have e40 : (27 : Int32) * (40 * nI p + nI i) + nI k = nI (27 * (40 * p + i) + k) := by rw [show (40 : Int32) = nI 40 from rfl, pk_mul, nI_add, show (27 : Int32) = nI 27 from rfl, pk_mul, nI_add]
  refine eX12_pTo m _ _ _ ⟨hs.1, m + 49, hs.r49, by rw [hs.h49], by rw [e40, hs.h49]; exact vp_in_nI (show 27 * (40 * p + i) + k < 140400 by omega) (by omega), ?_⟩
  rw [e40, nI_clamp (by omega), h.2.2 i hi k hk]
  exact hQ
theorem pr_tells2 {nb nB al sA sB way : Nat} {sta stb : Nat → Nat → Nat} {ma mb : Nat → Nat} {f : Nat} (hnB : nB ≤ nb) (hb : ∀ i, i < nB → ∀ g, g < f → stb i (vw b al sB g) < nB) : ∀ (u : List Nat) (x y : Nat), wd f u → y < nB → prM nb way ma mb (dl (prD b nb al sA sB sta stb) (x * nb + y) u) = jn way (ma (rn sta x (u.map (vw b al sA)))) (mb (rn stb y (u.map (vw b al sB))))
  | [], x, y, _, hy => by
    show jn way (ma ((x * nb + y) / nb)) (mb ((x * nb + y) % nb)) = jn way (ma x) (mb y)
    rw [Nat.mul_comm, Nat.mul_add_div (by omega), Nat.div_eq_of_lt (show y < nb by omega), Nat.mul_add_mod, Nat.mod_eq_of_lt (show y < nb by omega)]
    rfl
  | g :: u, x, y, hu, hy => by
    have ih := pr_tells2 (way := way) (sta := sta) (ma := ma) (mb := mb) (sA := sA) hnB hb u (sta x (vw b al sA g)) (stb y (vw b al sB g)) (wd_tail hu).2 (hb y hy g (wd_tail hu).1)
    have e : prD b nb al sA sB sta stb (x * nb + y) g = sta x (vw b al sA g) * nb + stb y (vw b al sB g) := by
      unfold prD
      rw [Nat.mul_comm x nb, Nat.mul_add_div (by omega), Nat.div_eq_of_lt (show y < nb by omega), Nat.mul_add_mod, Nat.mod_eq_of_lt (show y < nb by omega)]
      rfl
    show prM nb way ma mb (dl (prD b nb al sA sB sta stb) (prD b nb al sA sB sta stb (x * nb + y) g) u) = _
    rw [e, ih]
    rfl
theorem ur_joins (d : Nat) (hs : ReS M m) (hb : x_i M m 0 = nI b) (hb1 : 1 < b) (hb3 : b ≤ 3) {p l r op al sl sr : Nat} {ml mr : Mc} (hp : p < 130) (hl : l < 130) (hr : r < 130)
    (o30 : x_i M (m + 30) p = nI op) (hop : op = 3 ∨ op = 4 ∨ op = 5) (o31 : x_i M (m + 31) p = nI l) (o32 : x_i M (m + 32) p = nI r) (o35 : x_i M (m + 35) p = nI al) (o35l : x_i M (m + 35) l = nI sl) (o35r : x_i M (m + 35) r = nI sr) (hal : al < 256) (hsl : sl < 256) (hsr : sr < 256) (h27 : fn b al ≤ 27) (hfl : fn b sl ≤ 27) (hfr' : fn b sr ≤ 27)
    (hml : ReP M m l (fn b sl) ml) (hmr : ReP M m r (fn b sr) mr) (hnl : 0 < m_n ml ∧ m_n ml ≤ 40) (hnr : 0 < m_n mr ∧ m_n mr ≤ 40) (hcl : ∀ i, i < m_n ml → ∀ g, g < fn b sl → m_s ml i g < m_n ml) (hcr : ∀ i, i < m_n mr → ∀ g, g < fn b sr → m_s mr i g < m_n mr) (hkl : ∀ i, i < m_n ml → m_k ml i ≤ 1) (hkr : ∀ i, i < m_n mr → m_k mr i ≤ 1)
    (hQ : ∀ M' res, FrM M M' m [25, 26, 29] [20, 21, 22, 23, 24, 25, 26, 27, 28, 29, 48, 49, 50] → RePk M M' m p → LRes (fn b al) 40 (fun u => jn op (m_b ml (u.map (vw b al sl))) (m_b mr (u.map (vw b al sr)))) res → (∀ mc, res = some mc → ReP M' m p (fn b al) mc) → Q (some (.int (nI (if res.isSome = true then 1 else 0)))) M') :
    Call G (d + 6) 0 0 mX12_joins [.ref m, .int (nI p)] M Q := by
  have hf0 : 0 < fn b al := fn_pos (by omega)
  have hvl : ∀ g, vw b al sl g < fn b sl := fun g => vw_lt (by omega)
  have hvr : ∀ g, vw b al sr g < fn b sr := fun g => vw_lt (by omega)
  generalize hδ : prD b 60 al sl sr (m_s ml) (m_s mr) = δ
  generalize hμ : prM 60 op (m_k ml) (m_k mr) = μ
  generalize hfg : fn b al = f at *
  have hδx : ∀ x g, δ x g = m_s ml (x / 60) (vw b al sl g) * 60 + m_s mr (x % 60) (vw b al sr g) := fun x g => by rw [← hδ]; rfl
  have hKn : ∀ c, ∀ x ∈ ex δ f 0 c, x / 60 < m_n ml ∧ x % 60 < m_n mr := by
    intro c
    induction c with
    | zero => intro x hx; rw [List.mem_singleton.mp hx]; exact ⟨hnl.1, hnr.1⟩
    | succ c ih =>
      intro x hx
      rcases ins_of.mp hx with q | q
      · exact ih x q
      · have hg : (ex δ f 0 c).getD (c / f) 0 / 60 < m_n ml ∧ (ex δ f 0 c).getD (c / f) 0 % 60 < m_n mr := by
          by_cases hc : c / f < (ex δ f 0 c).length
          · exact ih _ (getD_mem hc)
          · rw [List.getD_eq_getElem?_getD, List.getElem?_eq_none (by omega)]
            exact ⟨hnl.1, hnr.1⟩
        have h1 := hcl _ hg.1 _ (hvl (c % f))
        have h2 := hcr _ hg.2 _ (hvr (c % f))
        rw [q, hδx]
        generalize m_s ml ((ex δ f 0 c).getD (c / f) 0 / 60) (vw b al sl (c % f)) = X at h1 ⊢
        generalize m_s mr ((ex δ f 0 c).getD (c / f) 0 % 60) (vw b al sr (c % f)) = Y at h2 ⊢
        constructor <;> omega
  have hμ1 : ∀ c, ∀ x ∈ ex δ f 0 c, μ x ≤ 1 := fun c x hx => by
    obtain ⟨h1, h2⟩ := hKn c x hx
    rw [← hμ]
    exact jn_le (by omega) (Or.inr (hkl _ h1)) (Or.inr (hkr _ h2))
  have hbeta : ∀ u, wd f u → μ (dl δ 0 u) = jn op (m_b ml (u.map (vw b al sl))) (m_b mr (u.map (vw b al sr))) := fun u hu => by
    rw [← hμ, ← hδ, dl_0 (nb := 60), pr_tells2 (f := f) (nB := m_n mr) (by omega) (fun i hi g _ => hcr i hi _ (hvr g)) u 0 0 hu hnr.1]
    rfl
  have fr0 : ∀ {M' : Mem}, FrM M M' m [25, 26] [20, 21, 27, 28, 29] → ReS M' m ∧ x_i M' m 0 = nI b ∧ x_i M' (m + 30) p = nI op ∧ x_i M' (m + 35) l = nI sl ∧ x_i M' (m + 35) r = nI sr ∧ ReP M' m l (fn b sl) ml ∧ ReP M' m r (fn b sr) mr := fun q => ⟨q.S hs, by rw [q.fm (by decide)]; exact hb, by rw [q.i (by decide) (by decide)]; exact o30, by rw [q.i (by decide) (by decide)]; exact o35l, by rw [q.i (by decide) (by decide)]; exact o35r, hml.fr q (by decide), hmr.fr q (by decide)⟩
  have done : ∀ i M', FrM M M' m [25, 26] [20, 21, 27, 28, 29] → x_i M' m 26 = nI f → PrI M' m (ex δ f 0 (i * f)) → RxI M' m f δ 0 μ (i * f) i → (ex δ f 0 (i * f)).length = i → Call G (d + 5) 0 0 mX12_becomes [.ref m, .int (nI p)] M' (fun r3 M4 => ∃ v5 : Int32, r3 = some (.int v5) ∧ (v5 = 0 ∨ v5 = 1) ∧ Q (some (.int v5)) M4) := by
    intro i M' hfr h26 hpr hrx el
    have hlen := hpr.len
    obtain ⟨w1, w2⟩ := hrx.raw hf0 h27 el (by rw [hpr.1, el]) h26 (by omega) (fun x hx => by have := hμ1 _ x hx; omega)
    refine ur_becomes d (fr0 hfr).1 w1 hp (fun t ht => hμ1 _ _ (getD_mem (by omega))) (fun M1 res g1 g2 g3 g4 => ⟨_, rfl, ?_, hQ M1 res ((hfr.wk (by decide) (by decide)).tr g1 (by decide) (by decide)) (fun p' f' mc h1 h2 h3 h4 => g2 p' f' mc h1 h2 h3 (h4.fr hfr (by decide))) (g3.congr (fun u hu => (w2 u hu).trans (hbeta u hu))) g4⟩)
    cases res with
    | none => exact Or.inl rfl
    | some mc => exact Or.inr rfl
  have inner : ∀ i, (∀ M' z z1 z2 z3, FrM M M' m [25, 26] [20, 21, 27, 28, 29] → x_i M' m 26 = nI f → PrI M' m (ex δ f 0 (i * f + f)) → RxI M' m f δ 0 μ (i * f + f) (i + 1) → c1 z = true → c1 z1 = true → c1 z2 = true → c1 z3 = true → LX12_joins_39 G (d + 5) 0 0 m (nI p) (nI l) (nI r) (nI al) (nI (i + 1)) z z1 z2 z3 M' Q) →
      ∀ k j, j + k = f → ∀ M', FrM M M' m [25, 26] [20, 21, 27, 28, 29] → x_i M' m 26 = nI f → PrI M' m (ex δ f 0 (i * f + j)) → RxI M' m f δ 0 μ (i * f + j) (i + 1) → ∀ x6 x7 x8, LX12_joins_179 G (d + 5) 0 0 m (nI p) (nI l) (nI r) (nI al) (nI i) x6 x7 x8 (nI j) M' Q := by
    intro i hout k
    induction k with
    | zero =>
      intro j hj M' hfr h26 hpr hrx x6 x7 x8
      have e : j = f := by omega
      subst e
      refine vX12_joins_179 _ _ _ _ _ _ _ _ _ _ ⟨(fr0 hfr).1.1, fun _ => ?_, fun c => absurd (by rw [h26]; exact nI_le (Nat.le_refl j) (by omega)) c⟩
      rw [nI_1]
      exact hout M' _ _ _ _ hfr h26 hpr hrx rfl rfl rfl rfl
    | succ k ih =>
      intro j hj M' hfr h26 hpr hrx x6 x7 x8
      have hjf : j < f := by omega
      have hil : i < (ex δ f 0 (i * f + j)).length := hrx.2.2.2
      have hlen := hpr.len
      obtain ⟨q1, q2, q3, q4, q5, q6, q7⟩ := fr0 hfr
      obtain ⟨t1, t2⟩ := hpr.2.2.1 i hil
      obtain ⟨kn1, kn2⟩ := hKn _ _ (getD_mem hil)
      generalize hxe : (ex δ f 0 (i * f + j)).getD i 0 = x at t1 t2 kn1 kn2
      have e1 : (i * f + j) / f = i := by rw [Nat.mul_comm, Nat.mul_add_div hf0, Nat.div_eq_of_lt hjf]; rfl
      have e2 : (i * f + j) % f = j := by rw [Nat.mul_comm, Nat.mul_add_mod]; exact Nat.mod_eq_of_lt hjf
      have hkey : δ ((ex δ f 0 (i * f + j)).getD ((i * f + j) / f) 0) ((i * f + j) % f) = m_s ml (x / 60) (vw b al sl j) * 60 + m_s mr (x % 60) (vw b al sr j) := by rw [e1, e2, hxe, ← hδ]; rfl
      have hex : ex δ f 0 (i * f + j + 1) = ins (ex δ f 0 (i * f + j)) (m_s ml (x / 60) (vw b al sl j) * 60 + m_s mr (x % 60) (vw b al sr j)) := by rw [← hkey]; rfl
      have hexl : exl δ f 0 (i * f + j) = (ins (ex δ f 0 (i * f + j)) (m_s ml (x / 60) (vw b al sl j) * 60 + m_s mr (x % 60) (vw b al sr j))).idxOf (m_s ml (x / 60) (vw b al sl j) * 60 + m_s mr (x % 60) (vw b al sr j)) := by rw [← hex, ← hkey]; rfl
      have hsl' := hcl _ kn1 _ (hvl j)
      have hsr' := hcr _ kn2 _ (hvr j)
      have vin : vp_in (nI i) 8400 := vp_in_nI (show i < 8400 by omega) (by omega)
      refine vX12_joins_179 _ _ _ _ _ _ _ _ _ _ ⟨q1.1, fun c => absurd (by rw [h26] at c; exact c) (nI_ge (a := j) (b := f) (by omega) (by omega)), fun _ => ⟨m + 20, q1.r20, m + 28, q1.r28, by rw [q1.h28], by rw [q1.h28]; exact vin, m + 35, q1.r35, by rw [q1.h35], by rw [q1.h35]; exact vp_in_nI hl (by omega), ?_⟩⟩
      rw [nI_clamp (by omega), q4]
      refine ur_within (d + 1) q1 q2 hb1 hb3 (by omega) hal hsl ⟨_, rfl, q1.1, ?_⟩
      rw [nI_clamp (by omega), t1]
      refine ur_pTo (d + 4) q1 q6 hl hnl.2 hfl kn1 (hvl j) ⟨_, rfl, q1.1, m + 29, q1.r29, by rw [q1.h29], by rw [q1.h29]; exact vin, m + 35, q1.r35, by rw [q1.h35], by rw [q1.h35]; exact vp_in_nI hr (by omega), ?_⟩
      rw [nI_clamp (by omega), q5]
      refine ur_within (d + 1) q1 q2 hb1 hb3 (by omega) hal hsr ⟨_, rfl, q1.1, ?_⟩
      rw [t2]
      refine ur_pTo (d + 4) q1 q7 hr hnr.2 hfr' kn2 (hvr j) ⟨_, rfl, q1.1, ?_⟩
      refine ur_paired (d + 4) q1 hpr (by omega) (by omega) (fun M1 g1 g2 => ?_)
      rw [← hex] at g2
      rw [← hexl]
      have q1' := g1.S q1
      have e27 : (27 : Int32) * nI i + nI j = nI (27 * i + j) := by rw [show (27 : Int32) = nI 27 from rfl, pk_mul, nI_add]
      refine ⟨_, rfl, by rw [q1'.h20], by rw [e27, q1'.h20]; exact vp_in_nI (show 27 * i + j < 226800 by omega) (by omega), ?_⟩
      rintro M2 rfl
      rw [e27, nI_clamp (by omega), nI_1]
      have g3 : FrM M1 (x_si M1 (m + 20) (27 * i + j) (nI (exl δ f 0 (i * f + j)))) m [25, 26] [20, 21, 27, 28, 29] := FrM.rf.si (by decide) (by decide)
      exact ih (j + 1) (by omega) _ ((hfr.tr g1 (by decide) (by decide)).tr g3 (by decide) (by decide)) (by rw [xm_mo (by decide), g1.fm (by decide)]; exact h26) (g2.fr (FrM.rf.si (F := []) (A := [20]) (by decide) (by decide)) (by decide) (by decide)) ((hrx.fr g1 (by decide)).link hf0 h27 rfl hjf hil rfl) x6 x7 x8
  have outer : ∀ k i, i + k = 3600 → ∀ M', FrM M M' m [25, 26] [20, 21, 27, 28, 29] → x_i M' m 26 = nI f → PrI M' m (ex δ f 0 (i * f)) → RxI M' m f δ 0 μ (i * f) i → ∀ z z1 z2 z3, c1 z = true → c1 z1 = true → c1 z2 = true → c1 z3 = true → LX12_joins_39 G (d + 5) 0 0 m (nI p) (nI l) (nI r) (nI al) (nI i) z z1 z2 z3 M' Q := by
    intro k
    induction k with
    | zero =>
      intro i hi M' hfr h26 hpr hrx z z1 z2 z3 hz hz1 hz2 hz3
      have hlen := hpr.len
      have hle := hrx.2.2.2
      have el : (ex δ f 0 (i * f)).length = i := by omega
      exact vX12_joins_39 _ _ _ _ _ _ _ _ _ _ hz hz1 hz2 hz3 ⟨(fr0 hfr).1.1, fun _ => done i M' hfr h26 hpr hrx el, fun c => absurd (by rw [hpr.1, el]; exact nI_le (Nat.le_refl i) (by omega)) c⟩
    | succ k ih =>
      intro i hi M' hfr h26 hpr hrx z z1 z2 z3 hz hz1 hz2 hz3
      have hlen := hpr.len
      have hle := hrx.2.2.2
      obtain ⟨q1, q2, q3, q4, q5, q6, q7⟩ := fr0 hfr
      refine vX12_joins_39 _ _ _ _ _ _ _ _ _ _ hz hz1 hz2 hz3 ⟨q1.1, fun c => ?_, fun c => ?_⟩
      · rw [hpr.1] at c
        have := (nI_leI (a := (ex δ f 0 (i * f)).length) (b := i) (by omega) (by omega)).mp c
        exact done i M' hfr h26 hpr hrx (by omega)
      · rw [hpr.1] at c
        have hil : i < (ex δ f 0 (i * f)).length := by
          rcases Nat.lt_or_ge i (ex δ f 0 (i * f)).length with q | q
          · exact q
          · exact absurd (nI_le q (by omega)) c
        obtain ⟨t1, t2⟩ := hpr.2.2.1 i hil
        obtain ⟨kn1, kn2⟩ := hKn _ _ (getD_mem hil)
        generalize hxe : (ex δ f 0 (i * f)).getD i 0 = x at t1 t2 kn1 kn2
        have vin : vp_in (nI i) 8400 := vp_in_nI (show i < 8400 by omega) (by omega)
        have e1 : (40 : Int32) * nI l + nI (x / 60) = nI (40 * l + x / 60) := by rw [show (40 : Int32) = nI 40 from rfl, pk_mul, nI_add]
        have e2 : (40 : Int32) * nI r + nI (x % 60) = nI (40 * r + x % 60) := by rw [show (40 : Int32) = nI 40 from rfl, pk_mul, nI_add]
        have ha := hkl _ kn1
        have hb' := hkr _ kn2
        have ea0 : nI (m_k ml (x / 60)) = 0 ↔ m_k ml (x / 60) = 0 := nI_eq (b := 0) (by omega) (by omega)
        have eb0 : nI (m_k mr (x % 60)) = 0 ↔ m_k mr (x % 60) = 0 := nI_eq (b := 0) (by omega) (by omega)
        have eo3 : nI op = 3 ↔ op = 3 := nI_eq (b := 3) (by omega) (by omega)
        have eo4 : nI op = 4 ↔ op = 4 := nI_eq (b := 4) (by omega) (by omega)
        have hcli : (nI i).toNatClampNeg = i := nI_clamp (by omega)
        have hclp : (nI p).toNatClampNeg = p := nI_clamp (by omega)
        have go : ∀ (v : Nat) (w : Int32), v = μ x → w = nI v → ∀ x6 x7 x8, (x_h M' (m + 21)).1 = 1 ∧ vp_in (nI i) (x_h M' (m + 21)).2 ∧ ∀ M26, M26 = x_si M' (m + 21) i w → LX12_joins_179 G (d + 5) 0 0 m (nI p) (nI l) (nI r) (nI al) (nI i) x6 x7 x8 0 M26 Q := by
          intro v w hv hw x6 x7 x8
          refine ⟨by rw [q1.h21], by rw [q1.h21]; exact vin, ?_⟩
          rintro M2 rfl
          have g3 : FrM M' (x_si M' (m + 21) i w) m [25, 26] [20, 21, 27, 28, 29] := FrM.rf.si (by decide) (by decide)
          exact inner i (fun M3 z z1 z2 z3 b1 b2 b3 b4 hz hz1 hz2 hz3 => ih (i + 1) (by omega) M3 b1 b2 (by rw [Nat.succ_mul]; exact b3) (by rw [Nat.succ_mul]; exact b4) z z1 z2 z3 hz hz1 hz2 hz3) f 0 (by omega) _ (hfr.tr g3 (by decide) (by decide)) (by rw [xm_mo (by decide)]; exact h26) (hpr.fr (FrM.rf.si (F := []) (A := [21]) (by decide) (by decide)) (by decide) (by decide)) (hrx.mark hil (by rw [hw, hv, hxe])) x6 x7 x8
        have hv : μ x = jn op (m_k ml (x / 60)) (m_k mr (x % 60)) := by rw [← hμ]; rfl
        have T0 : jn op (m_k ml (x / 60)) (m_k mr (x % 60)) = 0 → ∀ x6 x7, ∃ b22, x_r M' m 28 = some b22 ∧ ((0 : Int32) = 0 → (x_h M' b22).1 = 1 ∧ vp_in (nI i) (x_h M' b22).2 ∧ (∀ M26, M26 = x_si M' b22 i 0 → LX12_joins_179 G (d + 5) 0 0 m (nI p) (nI l) (nI r) (nI al) (nI i) x6 x7 0 0 M26 Q)) ∧ (¬ (0 : Int32) = 0 → (x_h M' b22).1 = 1 ∧ vp_in (nI i) (x_h M' b22).2 ∧ (∀ M29, M29 = x_si M' b22 i 1 → LX12_joins_179 G (d + 5) 0 0 m (nI p) (nI l) (nI r) (nI al) (nI i) x6 x7 0 0 M29 Q)) := fun e x6 x7 => ⟨m + 21, q1.r21, fun _ => go 0 0 (by rw [hv, e]) rfl x6 x7 0, fun q => absurd rfl q⟩
        have T1 : jn op (m_k ml (x / 60)) (m_k mr (x % 60)) = 1 → ∀ x6 x7, ∃ b22, x_r M' m 28 = some b22 ∧ ((1 : Int32) = 0 → (x_h M' b22).1 = 1 ∧ vp_in (nI i) (x_h M' b22).2 ∧ (∀ M26, M26 = x_si M' b22 i 0 → LX12_joins_179 G (d + 5) 0 0 m (nI p) (nI l) (nI r) (nI al) (nI i) x6 x7 1 0 M26 Q)) ∧ (¬ (1 : Int32) = 0 → (x_h M' b22).1 = 1 ∧ vp_in (nI i) (x_h M' b22).2 ∧ (∀ M29, M29 = x_si M' b22 i 1 → LX12_joins_179 G (d + 5) 0 0 m (nI p) (nI l) (nI r) (nI al) (nI i) x6 x7 1 0 M29 Q)) := fun e x6 x7 => ⟨m + 21, q1.r21, fun q => absurd q (by decide), fun _ => go 1 1 (by rw [hv, e]) rfl x6 x7 1⟩
        refine ⟨m + 50, q1.r50, m + 28, q1.r28, by rw [q1.h28], by rw [q1.h28]; exact vin, by rw [q1.h50], ?_, m + 29, q1.r29, by rw [q1.h29], by rw [q1.h29]; exact vin, ?_, m + 30, q1.r30, by rw [q1.h30], by rw [q1.h30]; exact vp_in_nI hp (by omega), ?_⟩
        · rw [hcli, t1, e1, q1.h50]; exact vp_in_nI (show 40 * l + x / 60 < 5200 by omega) (by omega)
        · rw [hcli, t2, e2, q1.h50]; exact vp_in_nI (show 40 * r + x % 60 < 5200 by omega) (by omega)
        · rw [hcli, hclp, t1, t2, e1, e2, nI_clamp (by omega), nI_clamp (by omega), q6.2.1 _ kn1, q7.2.1 _ kn2, q3, ea0, eb0, eo3, eo4]
          generalize m_k ml (x / 60) = A at *
          generalize m_k mr (x % 60) = B at *
          refine ⟨fun c3 => ⟨fun c4 => ⟨fun cA => ?_, fun cA => ⟨fun cB => ?_, fun cB => ?_⟩⟩, fun c4 => ⟨fun cA => ?_, fun cA => ⟨fun cB => ?_, fun cB => ?_⟩⟩⟩, fun c3 => ⟨fun cA => ?_, fun cA => ⟨fun cB => ?_, fun cB => ?_⟩⟩⟩
          · have e5 : op = 5 := by omega
            subst e5
            exact T1 (by rw [cA]; rcases (show B = 0 ∨ B = 1 by omega) with e | e <;> rw [e] <;> decide) _ _
          · have e5 : op = 5 := by omega
            have eA : A = 1 := by omega
            subst e5
            exact T0 (by rw [eA, cB]; decide) _ _
          · have e5 : op = 5 := by omega
            have eA : A = 1 := by omega
            have eB : B = 1 := by omega
            subst e5
            exact T1 (by rw [eA, eB]; decide) _ _
          · have eA : A = 1 := by omega
            subst c4
            exact T1 (by rw [eA]; rcases (show B = 0 ∨ B = 1 by omega) with e | e <;> rw [e] <;> decide) _ _
          · subst c4
            exact T0 (by rw [cA, cB]; decide) _ _
          · have eB : B = 1 := by omega
            subst c4
            exact T1 (by rw [cA, eB]; decide) _ _
          · subst c3
            exact T0 (by rw [cA]; rcases (show B = 0 ∨ B = 1 by omega) with e | e <;> rw [e] <;> decide) _ _
          · subst c3
            exact T0 (by rw [cB]; rcases (show A = 0 ∨ A = 1 by omega) with e | e <;> rw [e] <;> decide) _ _
          · have eA : A = 1 := by omega
            have eB : B = 1 := by omega
            subst c3
            exact T1 (by rw [eA, eB]; decide) _ _
  refine eX12_joins m _ ⟨hs.1, m + 31, hs.r31, by rw [hs.h31], by rw [hs.h31]; exact vp_in_nI hp (by omega), m + 32, hs.r32, by rw [hs.h32], by rw [hs.h32]; exact vp_in_nI hp (by omega), m + 35, hs.r35, by rw [hs.h35], by rw [hs.h35]; exact vp_in_nI hp (by omega), ?_⟩
  rw [nI_clamp (by omega), o31, o32, o35]
  refine ur_noPairs (d + 3) hs (fun M1 g1 g2 => ⟨rfl, (g1.S hs).1, ?_⟩)
  refine u_across (d + 3) (g1.S hs) (by rw [g1.fm (by decide)]; exact hb) hal ⟨_, rfl, (g1.S hs).1, ?_⟩
  rintro M2 rfl
  rw [hfg]
  have g3 := (g1.wk (F := [25, 26]) (A := [20, 21, 27, 28, 29]) (by decide) (by decide)).sm (k := 26) (v := nI f) (by decide)
  exact outer 3600 0 (by omega) _ g3 (by rw [xi_eq]) (by rw [Nat.zero_mul]; exact g2.fr (FrM.rf.sm (F := [26]) (A := []) (by decide)) (by decide) (by decide)) (by rw [Nat.zero_mul]; exact RxI.start) none none none none rfl rfl rfl rfl
end RJoinsC
